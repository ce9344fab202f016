/-! WHICH MOVES PRESERVE THE CODE; the operation count -/
def g_pvq (f : Nat → Nat) : Nat → Bool
  | 0 => true
  | k + 1 => g_pvq f k && decide (g_im f (g_B k) 24 = g_w (g_pl (g_im f (g_B k) 24)))
def g_pvb (f : Nat → Nat) : Bool := g_pvq f 12
theorem pvq_f (f : Nat → Nat) (q : Nat) (h : g_pvq f q = false) : ∀ r, g_pvq f (q + r) = false
  | 0 => h
  | r + 1 => by
    show (g_pvq f (q + r) && _) = false
    rw [pvq_f f q h r]
    rfl
theorem pvq_b {f : Nat → Nat} : ∀ q, g_pvq f q = true ↔ ∀ k, k < q → g_isw (g_im f (g_B k) 24)
  | 0 => ⟨fun _ k hk => absurd hk (Nat.not_lt_zero k), fun _ => rfl⟩
  | q + 1 => by
    show (g_pvq f q && decide (g_isw (g_im f (g_B q) 24))) = true ↔ _
    rw [Bool.and_eq_true, pvq_b q, decide_eq_true_iff]
    constructor
    · intro h k hk
      by_cases e : k = q
      · subst e
        exact h.2
      · exact h.1 k (by omega)
    · intro h
      exact ⟨fun k hk => h k (by omega), h q (by omega)⟩
theorem g_B_lt : ∀ k, k < 12 → g_B k < 2 ^ 24 := by decide +kernel
def g_pm (f : Nat → Nat → Nat) (q : Nat) : Nat := itn (fun m w => w ||| if g_pvb (f m) then 2 ^ m else 0) 0 q
theorem pm_s (f : Nat → Nat → Nat) (q : Nat) : g_pm f (q + 1) = g_pm f q ||| if g_pvb (f q) then 2 ^ q else 0 := rfl
section PV
variable {d : Nat} {K : Option Value → am_M → Prop} {I : Nat → Nat → Int32} {Lg : Nat → Nat → Int64} {rr : Nat → Nat → Option Nat} {n : Nat} {G : (Nat → Nat → Int32) → Prop}
theorem s_isPreservedBy {a : Nat} {f : Nat → Nat} (hd : 3 ≤ d) (hT : vT I) (ha : am_ro 1497 a 24) (hI : ∀ p, p < 24 → I a p = nI (f p)) (hf : ∀ p, p < 24 → f p < 24) (h : K (some (.int (if g_pvb f then nI 1 else nI 0))) (am_st I Lg rr n)) : am_AC d k_Go_isPreservedBy [.ref 19, .ref a] (am_st I Lg rr n) K := by
  obtain ⟨d, rfl, hd1⟩ := s_up hd
  have key : ∀ q, q ≤ 12 → g_pvq f q = true → am_St d k_Go_isPreservedBy (am_st I Lg rr n) K 11 [some (.ref 19), some (.ref a), some (.ref 24), some (.int (nI 12)), some (.int (nI q)), none] [] (am_st I Lg rr n) := by
    refine lp_up _ (fun q hq ih => ?_) ?_
    · intro hp
      have eu : am_un (nI q) = q := n_un (by omega)
      have hB := hT.2.1.2.2.2.2.1 q hq
      have bl := g_B_lt q hq
      refine am_step _ _ _ (b_Go_isPreservedBy_11 ⟨fun _ => ?_, fun q2 => absurd (nI_lt hq (by decide)) q2⟩)
      rw [eu, hB]
      refine ⟨hq, s_imageOf (by omega) ha hI hf (by omega) ⟨_, rfl, am_step _ _ _ (b_Go_isPreservedBy_30 (s_isWord hd1 hT (im_lt hf _ 24 (Nat.le_refl _)) (fun w => ⟨_, rfl, am_step _ _ _ (b_Go_isPreservedBy_33 ⟨fun q2 => absurd q2 (by decide), fun _ => ?_⟩)⟩) (fun w => ⟨_, rfl, am_step _ _ _ (b_Go_isPreservedBy_33 ⟨fun _ => ?_, fun q2 => absurd rfl q2⟩)⟩)))⟩⟩
      · rw [nI_add]
        refine am_fg (le_same _ (le_same _ (le_same _ (le_same _ (le_same _ (le_int _ le_nil)))))) (ih ?_)
        show (g_pvq f q && decide (g_isw (g_im f (g_B q) 24))) = true
        rw [hp, decide_eq_true w]
        rfl
      · have e : g_pvq f (q + 1) = false := by
          show (g_pvq f q && decide (g_isw (g_im f (g_B q) 24))) = false
          rw [hp, decide_eq_false w]
          rfl
        have e2 := pvq_f f (q + 1) e (12 - (q + 1))
        rw [show q + 1 + (12 - (q + 1)) = 12 by omega] at e2
        unfold g_pvb at h
        rw [e2] at h
        exact h
    · intro hp
      unfold g_pvb at h
      rw [hp] at h
      exact am_step _ _ _ (b_Go_isPreservedBy_11 ⟨fun q2 => absurd q2 (by decide), fun _ => h⟩)
  exact am_in _ _ _ (am_step _ _ _ (b_Go_isPreservedBy_0 (key 0 (by decide) rfl)))
theorem s_keeps {m : Nat} {f : Nat → Nat} (hd : 4 ≤ d) (hT : vT I) (hm : m < 5) (hI : ∀ p, p < 24 → I 1470 (24 * m + p) = nI (f p)) (hf : ∀ p, p < 24 → f p < 24) (h : K (some (.int (if g_pvb f then nI 1 else nI 0))) (am_st I Lg rr n)) : am_AC d k_M_keeps [.ref 1469, .int (nI m)] (am_st I Lg rr n) K := by
  obtain ⟨d, rfl, hd1⟩ := s_up hd
  have key : ∀ q, q ≤ 12 → am_St d k_M_keeps (am_st I Lg rr n) K 4 [some (.ref 1469), some (.int (nI m)), some (.int (if g_pvq f q then nI 1 else nI 0)), some (.int (nI q))] [] (am_st I Lg rr n) := by
    refine lp_up _ (fun q hq ih => ?_) ?_
    · have bl := g_B_lt q hq
      refine am_step _ _ _ (b_M_keeps_4 ⟨fun _ => ⟨fun q2 => ?_, fun q2 => ?_⟩, fun q2 => absurd (nI_lt hq (by decide)) q2⟩)
      · cases hp : g_pvq f q
        · have e2 := pvq_f f q hp (12 - q)
          rw [show q + (12 - q) = 12 by omega] at e2
          unfold g_pvb at h
          rw [e2] at h
          exact h
        · rw [hp] at q2
          exact absurd q2 (by decide)
      · cases hp : g_pvq f q
        · rw [hp] at q2
          exact absurd rfl q2
        · refine s_basic (by omega) (by omega) ⟨_, rfl, am_step _ _ _ (b_M_keeps_21 ?_)⟩
          rw [m_basic_B q hq]
          have e : g_pvq f (q + 1) = decide (g_isw (g_im f (g_B q) 24)) := by
            show (g_pvq f q && decide (g_isw (g_im f (g_B q) 24))) = _
            rw [hp]
            rfl
          rw [e] at ih
          refine s_goes (by omega) hm hI hf (by omega) ⟨_, rfl, am_step _ _ _ (b_M_keeps_24 (s_MnumberOf (by omega) hT (im_lt hf _ 24 (Nat.le_refl _)) (fun w => ⟨_, rfl, am_step _ _ _ (b_M_keeps_27 ⟨fun q3 => ?_, fun _ => ?_⟩)⟩) (fun w => ⟨_, rfl, am_step _ _ _ (b_M_keeps_27 ⟨fun _ => ?_, fun q3 => absurd (show am_k (-4) < 0 by decide) q3⟩)⟩)))⟩
          · have := g_N_lt (g_pl (g_im f (g_B q) 24))
            exact absurd q3 (show ¬ nI _ < nI 0 from nI_nlt (Nat.zero_le _) (by omega))
          · rw [decide_eq_true w] at ih
            rw [nI_add]
            exact ih
          · rw [decide_eq_false w] at ih
            rw [nI_add]
            exact ih
    · exact am_step _ _ _ (b_M_keeps_4 ⟨fun q2 => absurd q2 (by decide), fun _ => am_zg (by split <;> rfl) h⟩)
  exact am_in _ _ _ (am_step _ _ _ (b_M_keeps_0 (key 0 (by decide))))
theorem s_preservingMoves {now : a_S} (hd : 4 ≤ d) (hT : vT I) (ok : a_ok now) (hc : c_S I 1337 now) (h : K (some (.int (nI (g_pm now.1 5)))) (am_st I Lg rr n)) : am_AC d k_X_preservingMoves [.ref 12] (am_st I Lg rr n) K := by
  obtain ⟨d, rfl, hd1⟩ := s_up hd
  have key : ∀ q, q ≤ 5 → am_St d k_X_preservingMoves (am_st I Lg rr n) K 4 [some (.ref 12), some (.int (nI (g_pm now.1 q))), some (.int (nI q))] [] (am_st I Lg rr n) := by
    refine lp_up _ (fun q hq ih => ?_) ?_
    · have eu : am_un (nI q) = q := n_un (by omega)
      refine am_step _ _ _ (b_X_preservingMoves_4 ⟨fun _ => ?_, fun q2 => absurd (nI_lt hq (by decide)) q2⟩)
      rw [eu]
      refine ⟨hq, am_obi (RR_now rr q hq) (s_isPreservedBy (by omega) hT (ro_now hq) (now_x hc hq) (ok.1 q hq).1 ⟨_, rfl, am_step _ _ _ (b_X_preservingMoves_28 ?_)⟩)⟩
      rw [pm_s] at ih
      cases hb : g_pvb (now.1 q)
      · rw [hb, if_neg (by decide), Nat.or_zero] at ih
        refine ⟨fun _ => ?_, fun q => absurd rfl q⟩
        rw [nI_add]
        exact ih
      · rw [hb, if_pos rfl] at ih
        refine ⟨fun q2 => absurd q2 (by decide), fun _ => ?_⟩
        rw [nI_add, n_p2 (by omega), n_or]
        exact ih
    · exact am_step _ _ _ (b_X_preservingMoves_4 ⟨fun q2 => absurd q2 (by decide), fun _ => h⟩)
  exact am_in _ _ _ (am_step _ _ _ (b_X_preservingMoves_0 (key 0 (by decide))))
theorem op_count (a0 : Int32) : lw_Op (vV G) k_X_count k_M_count [.int a0] := by
  refine op_pure fun I Lg rr n hV => ?_
  have hT := hV.1
  obtain ⟨now, us, ks, ok, hks, hc, hm, h28⟩ := hV.2.1
  have hSv := hV.2.2.1
  by_cases h0 : a0 = nI 0
  · refine ⟨nI now.2.1, fun K hK => am_in _ _ _ (am_step _ _ _ (b_X_count_0 ⟨fun _ => ?_, fun q => absurd h0 q⟩)), fun K hK => am_in _ _ _ (am_step _ _ _ (b_M_count_0 ⟨fun _ => ⟨by decide, ?_⟩, fun q => absurd h0 q⟩))⟩
    · rw [hc.1.2.1]
      exact hK
    · rw [show I 1470 (am_un (nI 120)) = _ from hm.1.2.1]
      exact hK
  · by_cases h1 : a0 = nI 1
    · refine ⟨nI us, fun K hK => am_in _ _ _ (am_step _ _ _ (b_X_count_0 ⟨fun q => absurd q h0, fun _ => ⟨fun _ => ?_, fun q => absurd h1 q⟩⟩)), fun K hK => am_in _ _ _ (am_step _ _ _ (b_M_count_0 ⟨fun q => absurd q h0, fun _ => ⟨fun _ => ?_, fun q => absurd h1 q⟩⟩))⟩
      · rw [hc.2.1]
        exact hK
      · rw [h28]
        exact hK
    · by_cases h2 : a0 = nI 2
      · refine ⟨nI (g_pm now.1 5), fun K hK => am_in _ _ _ (am_step _ _ _ (b_X_count_0 ⟨fun q => absurd q h0, fun _ => ⟨fun q => absurd q h1, fun _ => ⟨fun _ => s_preservingMoves (by decide) hT ok hc.1 ⟨_, rfl, am_step _ _ _ (b_X_count_55 hK)⟩, fun q => absurd h2 q⟩⟩⟩)), fun K hK => am_in _ _ _ (am_step _ _ _ (b_M_count_0 ⟨fun q => absurd q h0, fun _ => ⟨fun q => absurd q h1, fun _ => ⟨fun _ => ?_, fun q => absurd h2 q⟩⟩⟩))⟩
        have key : ∀ q, q ≤ 5 → am_St 99 k_M_count (am_st I Lg rr n) K 47 [some (.ref 1469), some (.int a0), some (.int (nI (g_pm now.1 q))), some (.int (nI q))] [] (am_st I Lg rr n) := by
          refine lp_up _ (fun q hq ih => ?_) ?_
          · refine am_step _ _ _ (b_M_count_47 ⟨fun _ => s_keeps (by decide) hT hq (now_m hm.1 hq) (ok.1 q hq).1 ⟨_, rfl, am_step _ _ _ (b_M_count_58 ?_)⟩, fun q2 => absurd (nI_lt hq (by decide)) q2⟩)
            rw [pm_s] at ih
            cases hb : g_pvb (now.1 q)
            · rw [hb, if_neg (by decide)] at ih
              refine ⟨fun _ => ?_, fun q => absurd rfl q⟩
              rw [nI_add, n_or]
              exact ih
            · rw [hb, if_pos rfl] at ih
              refine ⟨fun q2 => absurd q2 (by decide), fun _ => ?_⟩
              rw [nI_add, n_p2 (by omega), n_or]
              exact ih
          · exact am_step _ _ _ (b_M_count_47 ⟨fun q2 => absurd q2 (by decide), fun _ => hK⟩)
        exact key 0 (by decide)
      · by_cases h3 : a0 = nI 3
        · obtain ⟨now2, us2, ks2, hc2, hs2⟩ := hSv
          rcases hs2 with ⟨s1, s2⟩ | ⟨s1, s2, s3⟩
          · refine ⟨nI 0, fun K hK => am_in _ _ _ (am_step _ _ _ (b_X_count_0 ⟨fun q => absurd q h0, fun _ => ⟨fun q => absurd q h1, fun _ => ⟨fun q => absurd q h2, fun _ => ⟨fun _ => ?_, fun q => absurd h3 q⟩⟩⟩⟩)), fun K hK => am_in _ _ _ (am_step _ _ _ (b_M_count_0 ⟨fun q => absurd q h0, fun _ => ⟨fun q => absurd q h1, fun _ => ⟨fun q => absurd q h2, fun _ => ⟨fun _ => ?_, fun q => absurd h3 q⟩⟩⟩⟩))⟩
            · rw [s1]
              exact ⟨fun _ => hK, fun q => absurd rfl q⟩
            · rw [s2]
              exact ⟨fun _ => hK, fun q => absurd (show am_k (-1) < 0 by decide) q⟩
          · have u6 := hc2.2.2.1
            refine ⟨nI 1, fun K hK => am_in _ _ _ (am_step _ _ _ (b_X_count_0 ⟨fun q => absurd q h0, fun _ => ⟨fun q => absurd q h1, fun _ => ⟨fun q => absurd q h2, fun _ => ⟨fun _ => ?_, fun q => absurd h3 q⟩⟩⟩⟩)), fun K hK => am_in _ _ _ (am_step _ _ _ (b_M_count_0 ⟨fun q => absurd q h0, fun _ => ⟨fun q => absurd q h1, fun _ => ⟨fun q => absurd q h2, fun _ => ⟨fun _ => ?_, fun q => absurd h3 q⟩⟩⟩⟩))⟩
            · rw [s1]
              exact ⟨fun q => absurd q (by decide), fun _ => hK⟩
            · rw [s2]
              exact ⟨fun q => absurd q (show ¬ nI us2 < nI 0 from nI_nlt (Nat.zero_le _) (by omega)), fun _ => hK⟩
        · exact ⟨am_k (-1), fun K hK => am_in _ _ _ (am_step _ _ _ (b_X_count_0 ⟨fun q => absurd q h0, fun _ => ⟨fun q => absurd q h1, fun _ => ⟨fun q => absurd q h2, fun _ => ⟨fun q => absurd q h3, fun _ => hK⟩⟩⟩⟩)), fun K hK => am_in _ _ _ (am_step _ _ _ (b_M_count_0 ⟨fun q => absurd q h0, fun _ => ⟨fun q => absurd q h1, fun _ => ⟨fun q => absurd q h2, fun _ => ⟨fun q => absurd q h3, fun _ => hK⟩⟩⟩⟩))⟩
end PV
