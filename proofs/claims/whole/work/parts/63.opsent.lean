/-! IMAGES OF SETS; the operation sent -/
/-- where f takes the first q places of s -/
def g_im (f : Nat → Nat) (s q : Nat) : Nat := itn (fun p w => w ||| (if s.testBit p then 2 ^ f p else 0)) 0 q
theorem im_s (f : Nat → Nat) (s q : Nat) : g_im f s (q + 1) = g_im f s q ||| (if s.testBit q then 2 ^ f q else 0) := rfl
theorem im_lt {f : Nat → Nat} (hf : ∀ p, p < 24 → f p < 24) (s : Nat) : ∀ q, q ≤ 24 → g_im f s q < 2 ^ 24
  | 0, _ => (show 0 < 2 ^ 24 by decide)
  | q + 1, h => by
    rw [im_s]
    refine Nat.or_lt_two_pow (im_lt hf s q (by omega)) ?_
    split
    · exact Nat.pow_lt_pow_right (by decide) (hf q (by omega))
    · decide
section IM
variable {d : Nat} {K : Option Value → am_M → Prop} {I : Nat → Nat → Int32} {Lg : Nat → Nat → Int64} {rr : Nat → Nat → Option Nat} {n : Nat} {G : (Nat → Nat → Int32) → Prop}
theorem s_imageOf {a s : Nat} {f : Nat → Nat} (hd : 1 ≤ d) (ha : am_ro 1497 a 24) (hI : ∀ p, p < 24 → I a p = nI (f p)) (hf : ∀ p, p < 24 → f p < 24) (hs : s < 2 ^ 31) (h : K (some (.int (nI (g_im f s 24)))) (am_st I Lg rr n)) : am_AC d k_Mo_imageOf [.ref a, .int (nI s)] (am_st I Lg rr n) K := by
  obtain ⟨d, rfl, hd1⟩ := s_up hd
  have key : ∀ q, q ≤ 24 → am_St d k_Mo_imageOf (am_st I Lg rr n) K 4 [some (.ref a), some (.int (nI s)), some (.int (nI (g_im f s q))), some (.int (nI q))] [] (am_st I Lg rr n) := by
    refine lp_up _ (fun q hq ih => ?_) ?_
    · have eu : am_un (nI q) = q := n_un (by omega)
      refine am_step _ _ _ (b_Mo_imageOf_4 (am_gi ha.g1 ⟨fun _ => am_gi (oS_ro ha) ?_, fun q2 => ?_⟩))
      · rw [eu, ha.n]
        refine ⟨hq, ?_⟩
        have e2 : ((nI s >>> (nI q &&& 31)) &&& nI 1) <<< (I a q &&& 31) = nI (if s.testBit q then 2 ^ f q else 0) := by
          have hfq := hf q hq
          have h2 := Nat.mod_lt (s / 2 ^ q) (y := 2) (by decide)
          have pw : 2 ^ f q < 2 ^ 24 := Nat.pow_lt_pow_right (by decide) hfq
          rw [n_shr hs (by omega), n_one, hI q hq, n_shl (by omega) (by
            rcases Nat.mod_two_eq_zero_or_one (s / 2 ^ q) with e | e
            · rw [e, Nat.zero_mul]
              decide
            · rw [e, Nat.one_mul]
              omega), Nat.testBit_eq_decide_div_mod_eq]
          rcases Nat.mod_two_eq_zero_or_one (s / 2 ^ q) with e | e
          · rw [e, Nat.zero_mul]
            rfl
          · rw [e, Nat.one_mul]
            rfl
        rw [e2, n_or, nI_add, ← im_s]
        exact ih
      · rw [ha.n] at q2
        exact absurd (nI_lt hq (by decide)) q2
    · refine am_step _ _ _ (b_Mo_imageOf_4 (am_gi ha.g1 ⟨fun q2 => ?_, fun _ => h⟩))
      rw [ha.n] at q2
      exact absurd q2 (by decide)
  exact am_in _ _ _ (am_step _ _ _ (b_Mo_imageOf_0 (key 0 (by decide))))
theorem s_Mto {m p x : Nat} (hd : 1 ≤ d) (hm : m < 5) (hp : p < 24) (hx : I 1470 (24 * m + p) = nI x) (h : K (some (.int (nI x))) (am_st I Lg rr n)) : am_AC d k_M_to [.ref 1469, .int (nI m), .int (nI p)] (am_st I Lg rr n) K := by
  obtain ⟨d, rfl, hd1⟩ := s_up hd
  refine am_in _ _ _ (am_step _ _ _ (b_M_to_0 ?_))
  rw [pk_mul, nI_add, n_un (by omega), hx]
  exact ⟨by omega, h⟩
theorem s_goes {m s : Nat} {f : Nat → Nat} (hd : 2 ≤ d) (hm : m < 5) (hI : ∀ p, p < 24 → I 1470 (24 * m + p) = nI (f p)) (hf : ∀ p, p < 24 → f p < 24) (hs : s < 2 ^ 31) (h : K (some (.int (nI (g_im f s 24)))) (am_st I Lg rr n)) : am_AC d k_M_goes [.ref 1469, .int (nI m), .int (nI s)] (am_st I Lg rr n) K := by
  obtain ⟨d, rfl, hd1⟩ := s_up hd
  have key : ∀ q, q ≤ 24 → am_St d k_M_goes (am_st I Lg rr n) K 5 [some (.ref 1469), some (.int (nI m)), some (.int (nI s)), some (.int (nI (g_im f s q))), some (.int (nI q))] [] (am_st I Lg rr n) := by
    refine lp_up _ (fun q hq ih => ?_) ?_
    · refine am_step _ _ _ (b_M_goes_5 ⟨fun _ => s_has hd1 ⟨_, rfl, am_step _ _ _ (b_M_goes_19 ?_)⟩, fun q2 => absurd (nI_lt hq (by decide)) q2⟩)
      rw [m_has_n hs (by omega)]
      rw [im_s] at ih
      cases hb : s.testBit q
      · rw [hb] at ih
        refine ⟨fun _ => ?_, fun q => absurd rfl q⟩
        rw [n_or, nI_add]
        exact ih
      · rw [hb] at ih
        refine ⟨fun q => absurd q (by decide), fun _ => s_Mto hd1 hm hq (hI q hq) ⟨_, rfl, am_step _ _ _ (b_M_goes_30 ?_)⟩⟩
        have hfq := hf q hq
        rw [n_p2 (by omega), n_or, nI_add]
        exact ih
    · exact am_step _ _ _ (b_M_goes_5 ⟨fun q2 => absurd q2 (by decide), fun _ => h⟩)
  exact am_in _ _ _ (am_step _ _ _ (b_M_goes_0 (key 0 (by decide))))
theorem now_x {now : a_S} (h : c_S I 1337 now) {m : Nat} (hm : m < 5) : ∀ p, p < 24 → I (1339 + m) p = nI (now.1 m p) := fun p hp => by
  have := h.1 m hm p hp
  rw [show 1337 + 2 + m = 1339 + m by omega] at this
  exact this
theorem now_m {now : a_S} (h : m_S (I 1470) 0 now) {m : Nat} (hm : m < 5) : ∀ p, p < 24 → I 1470 (24 * m + p) = nI (now.1 m p) := fun p hp => by
  have := h.1 m hm p hp
  rw [Nat.zero_add] at this
  exact this
theorem op_sent (a0 a1 : Int32) : lw_Op (vV G) k_X_sent k_M_sent [.int a0, .int a1] := by
  refine op_pure fun I Lg rr n hV => ?_
  obtain ⟨now, us, ks, ok, hks, hc, hm, h28⟩ := hV.2.1
  rcases rng_cases a0 (N := 5) (by decide) (by decide) with ⟨m, m1, rfl, m3, m4, m5⟩ | ⟨m3, m4, m5⟩
  · have e1 : am_un (nI m) = m := n_un (by omega)
    rcases set_cases a1 with ⟨s, s1, rfl, s3, s4⟩ | ⟨s3, s4⟩
    · refine ⟨nI (g_im (now.1 m) s 24), fun K hK => am_in _ _ _ (am_step _ _ _ (b_X_sent_0 (s_isOutside (by decide) ⟨_, rfl, am_step _ _ _ (b_X_sent_5 ?_)⟩))), fun K hK => am_in _ _ _ (am_step _ _ _ (b_M_sent_0 (s_isMove (by decide) ⟨_, rfl, am_step _ _ _ (b_M_sent_4 ?_)⟩)))⟩
      · rw [m3]
        refine ⟨fun _ => s_isNoSet (by decide) ⟨_, rfl, am_step _ _ _ (b_X_sent_12 ?_)⟩, fun q => absurd rfl q⟩
        rw [s3, e1]
        exact ⟨fun _ => ⟨m1, am_obi (RR_now rr m m1) (s_imageOf (by decide) (ro_now m1) (now_x hc.1 m1) (ok.1 m m1).1 (by omega) ⟨_, rfl, am_step _ _ _ (b_X_sent_33 hK)⟩)⟩, fun q => absurd rfl q⟩
      · rw [m4]
        refine ⟨fun q => absurd q (by decide), fun _ => s_isSet (by decide) ⟨_, rfl, am_step _ _ _ (b_M_sent_11 ?_)⟩⟩
        rw [s4]
        exact ⟨fun q => absurd q (by decide), fun _ => s_goes (by decide) m1 (now_m hm.1 m1) (ok.1 m m1).1 (by omega) ⟨_, rfl, am_step _ _ _ (b_M_sent_20 hK)⟩⟩
    · refine ⟨am_k (-1), fun K hK => am_in _ _ _ (am_step _ _ _ (b_X_sent_0 (s_isOutside (by decide) ⟨_, rfl, am_step _ _ _ (b_X_sent_5 ?_)⟩))), fun K hK => am_in _ _ _ (am_step _ _ _ (b_M_sent_0 (s_isMove (by decide) ⟨_, rfl, am_step _ _ _ (b_M_sent_4 ?_)⟩)))⟩
      · rw [m3]
        refine ⟨fun _ => s_isNoSet (by decide) ⟨_, rfl, am_step _ _ _ (b_X_sent_12 ?_)⟩, fun q => absurd rfl q⟩
        rw [s3]
        exact ⟨fun q => absurd q (by decide), fun _ => hK⟩
      · rw [m4]
        refine ⟨fun q => absurd q (by decide), fun _ => s_isSet (by decide) ⟨_, rfl, am_step _ _ _ (b_M_sent_11 ?_)⟩⟩
        rw [s4]
        exact ⟨fun _ => hK, fun q => absurd rfl q⟩
  · refine ⟨am_k (-1), fun K hK => am_in _ _ _ (am_step _ _ _ (b_X_sent_0 (s_isOutside (by decide) ⟨_, rfl, am_step _ _ _ (b_X_sent_5 ?_)⟩))), fun K hK => am_in _ _ _ (am_step _ _ _ (b_M_sent_0 (s_isMove (by decide) ⟨_, rfl, am_step _ _ _ (b_M_sent_4 ?_)⟩)))⟩
    · rw [m3]
      exact ⟨fun q => absurd q (by decide), fun _ => hK⟩
    · rw [m4]
      exact ⟨fun _ => hK, fun q => absurd rfl q⟩
end IM
