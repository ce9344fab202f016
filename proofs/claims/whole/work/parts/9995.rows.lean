/-! THE CLASS'S CHAIN: its rows, and what moves do with rows -/
theorem ch_ro0 : ∀ a, a < 1333 → (27 ≤ a ∧ ¬ a = 30 ∧ ¬ a = 55 ∧ ¬ a = 633 ∧ ¬ a = 1306) → sh_t a = 0 ∧ sh_n a = 24 := by decide +kernel
theorem ch_ro {a : Nat} (h1 : 27 ≤ a) (h2 : a < 1333) (h3 : ¬ a = 30 ∧ ¬ a = 55 ∧ ¬ a = 633 ∧ ¬ a = 1306) : am_ro 1497 a 24 := by
  have := ch_ro0 a h2 ⟨h1, h3⟩
  exact ⟨this.1, this.2, by omega, by omega⟩
theorem RR_30 (rr : Nat → Nat → Option Nat) : ∀ m, m < 24 → RR rr 30 m = some (31 + m) := fun m hm => by
  rw [RR_sh (by decide) (by decide) (by decide)]
  exact (show ∀ m, m < 24 → sh_r 30 m = some (31 + m) by decide +kernel) m hm
theorem RR_55 (rr : Nat → Nat → Option Nat) : ∀ m, m < 576 → RR rr 55 m = some (56 + m) := fun m hm => by
  rw [RR_sh (by decide) (by decide) (by decide)]
  exact (show ∀ m, m < 576 → sh_r 55 m = some (56 + m) by decide +kernel) m hm
theorem RR_633 (rr : Nat → Nat → Option Nat) : ∀ m, m < 672 → RR rr 633 m = some (634 + m) := fun m hm => by
  rw [RR_sh (by decide) (by decide) (by decide)]
  exact (show ∀ m, m < 672 → sh_r 633 m = some (634 + m) by decide +kernel) m hm
theorem RR_1306 (rr : Nat → Nat → Option Nat) : ∀ m, m < 24 → RR rr 1306 m = some (1307 + m) := fun m hm => by
  rw [RR_sh (by decide) (by decide) (by decide)]
  exact (show ∀ m, m < 24 → sh_r 1306 m = some (1307 + m) by decide +kernel) m hm
/-- the row a has f -/
def ip (I : Nat → Nat → Int32) (a : Nat) (f : Nat → Nat) : Prop := ∀ p, p < 24 → I a p = nI (f p)
/-- only the row a has changed -/
def nb1 (I J : Nat → Nat → Int32) (a : Nat) : Prop := ∀ b, ¬ b = a → J b = I b
section CR
variable {d : Nat} {K : Option Value → am_M → Prop} {I : Nat → Nat → Int32} {Lg : Nat → Nat → Int64} {rr : Nat → Nat → Option Nat} {n : Nat} {f g : Nat → Nat} {a b c : Nat}
theorem c_assign (hd : 1 ≤ d) (ha : am_ro 1497 a 24) (hb : am_ro 1497 b 24) (hI : ip I b f) (h : ∀ J, nb1 I J a → ip J a f → K none (am_st J Lg rr n)) : am_AC d k_Mo_assign [.ref a, .ref b] (am_st I Lg rr n) K :=
  s_assign hd ha hb (h _ (fun c hc => am_sr_off _ _ hc) (fun p hp => by
    rw [am_sr_at]
    unfold am_fl
    rw [if_pos hp]
    exact hI p hp))
theorem c_same (hd : 1 ≤ d) (ha : am_ro 1497 a 24) (h : ∀ J, nb1 I J a → ip J a pe_1 → K none (am_st J Lg rr n)) : am_AC d k_Mo_makeSame [.ref a] (am_st I Lg rr n) K :=
  s_makeSame hd ha (h _ (fun c hc => am_sr_off _ _ hc) (fun p hp => by
    rw [am_sr_at]
    unfold am_fl
    rw [if_pos hp]
    rfl))
theorem c_follow (hd : 2 ≤ d) (ha : am_ro 1497 a 24) (hb : am_ro 1497 b 24) (hab : ¬ a = b) (hf : ip I a f) (fl : ∀ p, p < 24 → f p < 24) (hg : ip I b g) (h : ∀ J, nb1 I J a → ip J a (pe_c g f) → K none (am_st J Lg rr n)) : am_AC d k_Mo_follow [.ref a, .ref b] (am_st I Lg rr n) K :=
  s_follow hd ha hb hab (fun p hp => ⟨hf p hp, fl p hp⟩) hg fun w hw => h _ (fun c hc => am_sr_off _ _ hc) fun p hp => by
    rw [am_sr_at]
    exact hw p hp
theorem nz_lt (q : Nat) (h : q < 2 ^ 31) : ¬ nI q < 0 := (show ¬ nI q < nI 0 from nI_nlt (Nat.zero_le _) h)
theorem c_combine (hd : 1 ≤ d) (ha : am_ro 1497 a 24) (hb : am_ro 1497 b 24) (hc : am_ro 1497 c 24) (hca : ¬ c = a) (hcb : ¬ c = b) (fm : pe_m f) (hf : ip I a f) (hg : ip I b g) (h : ∀ J, nb1 I J c → ip J c (pe_c g (pe_i f)) → K none (am_st J Lg rr n)) : am_AC d k_Mo_combine [.ref a, .ref b, .ref c] (am_st I Lg rr n) K := by
  obtain ⟨d, rfl, hd1⟩ := s_up hd
  have key : ∀ k, k ≤ 24 → ∀ J, nb1 I J c → (∀ p, p < k → J c (f p) = nI (g p)) → am_St d k_Mo_combine (am_st I Lg rr n) K 2 [some (.ref a), some (.ref b), some (.ref c), some (.int (nI k)), none] [] (am_st J Lg rr n) := by
    refine lp_up _ (fun k hk ih => ?_) ?_
    · intro J hJ hp
      have e : am_un (nI k) = k := n_un (by omega)
      have fl := fm.1.1 k hk
      have e2 : am_un (nI (f k)) = f k := n_un (by omega)
      have ea : J a k = nI (f k) := by rw [hJ a (fun q => hca q.symm)]; exact hf k hk
      have eb : J b k = nI (g k) := by rw [hJ b (fun q => hcb q.symm)]; exact hg k hk
      refine am_step _ _ _ (b_Mo_combine_2 (am_gi ha.g1 ⟨fun _ => am_gi hb.g1 ⟨fun _ => am_gi (oS_ro ha) ?_, fun q => ?_⟩, fun q => ?_⟩))
      · rw [e, ha.n, ea, eb]
        refine ⟨hk, fun q => absurd q (nz_lt _ (by omega)), fun _ => am_gi hc.g1 ⟨fun _ => am_gi (oS_ro hb) ?_, fun q => ?_⟩⟩
        · rw [hb.n, hc.n, e2, nI_add]
          refine ⟨hk, am_gi hc.g3 ⟨fl, am_fg (le_same _ (le_same _ (le_same _ (le_same _ (le_int _ le_nil))))) (ih _ (fun x hx => by rw [am_sr_off _ _ hx]; exact hJ x hx) fun p hpk => ?_)⟩⟩
          rw [am_sr_at]
          by_cases c1 : p = k
          · rw [c1, am_u1_at]
          · rw [am_u1_off _ _ (fun q => c1 (fm.1.2 p k (by omega) hk q))]
            exact hp p (by omega)
        · rw [hc.n] at q
          exact absurd (nI_lt fl (by decide)) q
      · rw [hb.n] at q
        exact absurd (nI_lt hk (by decide)) q
      · rw [ha.n] at q
        exact absurd (nI_lt hk (by decide)) q
    · intro J hJ hp
      refine am_step _ _ _ (b_Mo_combine_2 (am_gi ha.g1 ⟨fun q => ?_, fun _ => h J hJ fun q hq => ?_⟩))
      · rw [ha.n] at q
        exact absurd q (by decide)
      · have := pe_i_at fm hq
        have e := hp _ this.1
        rw [this.2] at e
        exact e
  exact am_in _ _ _ (am_step _ _ _ (b_Mo_combine_0 (key 0 (by decide) I (fun _ _ => rfl) fun p hp => absurd hp (Nat.not_lt_zero p))))
theorem c_invert (hd : 1 ≤ d) (ha : am_ro 1497 a 24) (hc : am_ro 1497 c 24) (hca : ¬ c = a) (fm : pe_m f) (hf : ip I a f) (h : ∀ J, nb1 I J c → ip J c (pe_i f) → K none (am_st J Lg rr n)) : am_AC d k_Mo_invert [.ref a, .ref c] (am_st I Lg rr n) K := by
  obtain ⟨d, rfl, hd1⟩ := s_up hd
  have key : ∀ k, k ≤ 24 → ∀ J, nb1 I J c → (∀ p, p < k → J c (f p) = nI p) → am_St d k_Mo_invert (am_st I Lg rr n) K 2 [some (.ref a), some (.ref c), some (.int (nI k)), none] [] (am_st J Lg rr n) := by
    refine lp_up _ (fun k hk ih => ?_) ?_
    · intro J hJ hp
      have e : am_un (nI k) = k := n_un (by omega)
      have fl := fm.1.1 k hk
      have e2 : am_un (nI (f k)) = f k := n_un (by omega)
      have ea : J a k = nI (f k) := by rw [hJ a (fun q => hca q.symm)]; exact hf k hk
      refine am_step _ _ _ (b_Mo_invert_2 (am_gi ha.g1 ⟨fun _ => am_gi (oS_ro ha) ?_, fun q => ?_⟩))
      · rw [e, ha.n, ea]
        refine ⟨hk, fun q => absurd q (nz_lt _ (by omega)), fun _ => am_gi hc.g1 ⟨fun _ => am_gi hc.g3 ?_, fun q => ?_⟩⟩
        · rw [hc.n, e2, nI_add]
          refine ⟨fl, am_fg (le_same _ (le_same _ (le_same _ (le_int _ le_nil)))) (ih _ (fun x hx => by rw [am_sr_off _ _ hx]; exact hJ x hx) fun p hpk => ?_)⟩
          rw [am_sr_at]
          by_cases c1 : p = k
          · rw [c1, am_u1_at]
          · rw [am_u1_off _ _ (fun q => c1 (fm.1.2 p k (by omega) hk q))]
            exact hp p (by omega)
        · rw [hc.n] at q
          exact absurd (nI_lt fl (by decide)) q
      · rw [ha.n] at q
        exact absurd (nI_lt hk (by decide)) q
    · intro J hJ hp
      refine am_step _ _ _ (b_Mo_invert_2 (am_gi ha.g1 ⟨fun q => ?_, fun _ => h J hJ fun q hq => ?_⟩))
      · rw [ha.n] at q
        exact absurd q (by decide)
      · have := pe_i_at fm hq
        have e := hp _ this.1
        rw [this.2] at e
        exact e
  exact am_in _ _ _ (am_step _ _ _ (b_Mo_invert_0 (key 0 (by decide) I (fun _ _ => rfl) fun p hp => absurd hp (Nat.not_lt_zero p))))
theorem c_source {t : Nat} (hd : 1 ≤ d) (ha : am_ro 1497 a 24) (fm : pe_m f) (hf : ip I a f) (ht : t < 24) (h : K (some (.int (nI (pe_i f t)))) (am_st I Lg rr n)) : am_AC d k_Mo_sourceOf [.ref a, .int (nI t)] (am_st I Lg rr n) K := by
  obtain ⟨d, rfl, hd1⟩ := s_up hd
  have hi := pe_i_at fm ht
  have key : ∀ k, k ≤ 24 → (∀ p, p < k → ¬ f p = t) → am_St d k_Mo_sourceOf (am_st I Lg rr n) K 2 [some (.ref a), some (.int (nI t)), some (.int (nI k))] [] (am_st I Lg rr n) := by
    refine lp_up _ (fun k hk ih => ?_) ?_
    · intro hp
      have e : am_un (nI k) = k := n_un (by omega)
      have fl := fm.1.1 k hk
      refine am_step _ _ _ (b_Mo_sourceOf_2 (am_gi ha.g1 ⟨fun _ => am_gi (oS_ro ha) ?_, fun q => ?_⟩))
      · rw [e, ha.n, hf k hk]
        refine ⟨hk, fun q => ?_, fun q => ?_⟩
        · rw [nI_eq (by omega) (by omega)] at q
          have : pe_i f t = k := pe_inj fm (by rw [hi.2, q])
          rw [this] at h
          exact h
        · rw [nI_add]
          refine ih fun p hpk => ?_
          by_cases c1 : p = k
          · intro e2
            rw [c1] at e2
            exact q (by rw [e2])
          · exact hp p (by omega)
      · rw [ha.n] at q
        exact absurd (nI_lt hk (by decide)) q
    · intro hp
      exact absurd hi.2 (hp _ hi.1)
  exact am_in _ _ _ (am_step _ _ _ (b_Mo_sourceOf_0 (key 0 (by decide) fun p hp => absurd hp (Nat.not_lt_zero p))))
theorem out_24 {q : Nat} (hq : q < 24) : m_out (nI q) (nI 24) = nI 0 := by
  unfold m_out
  rw [if_neg]
  intro h
  rcases h with h | h
  · exact nz_lt q (by omega) h
  · exact absurd (nI_lt hq (by decide)) (Int32.not_lt.mpr h)
theorem s_isReached {k q r : Nat} (hd : 2 ≤ d) (hk : k < 24) (hq : q < 24) (hr : I 29 k = nI r) (r24 : r < 2 ^ 24) (h1 : r.testBit q = true → K (some (.int (nI 1))) (am_st I Lg rr n)) (h0 : ¬ r.testBit q = true → K (some (.int (nI 0))) (am_st I Lg rr n)) : am_AC d k_Ch_isReached [.ref 26, .int (nI k), .int (nI q)] (am_st I Lg rr n) K := by
  obtain ⟨d, rfl, hd1⟩ := s_up hd
  refine am_in _ _ _ (am_step _ _ _ (b_Ch_isReached_0 (s_isOutside hd1 ⟨_, rfl, am_step _ _ _ (b_Ch_isReached_6 ?_)⟩)))
  rw [out_24 hq]
  refine ⟨fun _ => ?_, fun q => absurd rfl q⟩
  rw [n_un (show k < 2 ^ 32 by omega), hr]
  exact ⟨hk, fun q => h1 ((n_bit (by omega) (by omega)).mp q), fun q => h0 fun q2 => q ((n_bit (by omega) (by omega)).mpr q2)⟩
theorem s_back {k q : Nat} (hd : 2 ≤ d) (hk : k < 24) (hq : q < 24) (h : K (some (.ref (56 + (24 * k + q)))) (am_st I Lg rr n)) : am_AC d k_Ch_back [.ref 26, .int (nI k), .int (nI q)] (am_st I Lg rr n) K := by
  obtain ⟨d, rfl, hd1⟩ := s_up hd
  refine am_in _ _ _ (am_step _ _ _ (b_Ch_back_0 ?_))
  rw [pk_mul, nI_add, show k * 24 + q = 24 * k + q by omega]
  refine s_in_out (by omega) (show 24 * k + q < 576 by omega) (by decide) ⟨_, rfl, am_step _ _ _ (b_Ch_back_16 ⟨fun _ => ?_, fun e => absurd rfl e⟩)⟩
  rw [n_un (by omega)]
  exact ⟨by omega, am_obi (RR_55 rr _ (by omega)) h⟩
end CR
