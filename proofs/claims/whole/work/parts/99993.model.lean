/-! THE MODEL'S TABLE: sifting, adding, trying -/
def m_C (I : Nat → Nat → Int32) (b : Nat → Nat) (T : m_Tt) : Prop := I 1469 19 = nI T.1 ∧ (∀ k, k < 24 → I 1480 k = nI (b k)) ∧ (∀ k q, k < 24 → q < 24 → I 1481 (24 * k + q) = if T.2.2.1 k q = 0 then am_k (-1) else nI (T.2.2.1 k q - 1)) ∧ ∀ e, e < T.1 → I 1483 e = nI (T.2.1 e) ∧ ∀ p, p < 24 → I 1482 (24 * e + p) = nI (T.2.2.2 e p)
def rst (I J : Nat → Nat → Int32) : Prop := ∀ c, ¬ c = 1479 → ¬ c = 1484 → J c = I c
def adF (I J : Nat → Nat → Int32) : Prop := (∀ c, ¬ c = 1479 → ¬ c = 1484 → ¬ c = 1481 → ¬ c = 1482 → ¬ c = 1483 → ¬ c = 1469 → J c = I c) ∧ ∀ j, ¬ j = 19 → J 1469 j = I 1469 j
theorem adF_t {I J L : Nat → Nat → Int32} (h : adF I J) (h2 : adF J L) : adF I L := ⟨fun c h1 h3 h4 h5 h6 h7 => by rw [h2.1 c h1 h3 h4 h5 h6 h7, h.1 c h1 h3 h4 h5 h6 h7], fun j hj => by rw [h2.2 j hj, h.2 j hj]⟩
theorem rst_ad {I J : Nat → Nat → Int32} (h : rst I J) : adF I J := ⟨fun c h1 h2 _ _ _ _ => h c h1 h2, fun j _ => by rw [h 1469 (by decide) (by decide)]⟩
theorem m_C.fr {I J : Nat → Nat → Int32} {b : Nat → Nat} {T : m_Tt} (h : m_C I b T) (hJ : rst I J) : m_C J b T := by
  obtain ⟨h1, h2, h3, h4⟩ := h
  refine ⟨by rw [hJ 1469 (by decide) (by decide), h1], fun k hk => by rw [hJ 1480 (by decide) (by decide), h2 k hk], fun k q hk hq => by rw [hJ 1481 (by decide) (by decide), h3 k q hk hq], fun e he => ⟨by rw [hJ 1483 (by decide) (by decide), (h4 e he).1], fun p hp => by rw [hJ 1482 (by decide) (by decide), (h4 e he).2 p hp]⟩⟩
section MC
variable {d : Nat} {K : Option Value → am_M → Prop} {I : Nat → Nat → Int32} {Lg : Nat → Nat → Int64} {rr : Nat → Nat → Option Nat} {n : Nat} {b : Nat → Nat} {T : m_Tt} {x y w : Nat → Nat}
theorem s_takesBack {e : Nat} (hd : 1 ≤ d) (he : e < 124) (wm : pe_m w) (hw : ∀ p, p < 24 → I 1482 (24 * e + p) = nI (w p)) (yl : ∀ p, p < 24 → y p < 24) (hy : ip I 1484 y) (h : ∀ J, rst I J → ip J 1484 (pe_c (pe_i w) y) → K none (am_st J Lg rr n)) : am_AC d k_M_takesBack [.ref 1469, .int (nI e)] (am_st I Lg rr n) K := by
  obtain ⟨d, rfl, hd1⟩ := s_up hd
  have key2 : ∀ k, k ≤ 24 → ∀ J, rst I J → ip J 1479 (pe_i w) → (∀ p, p < 24 → J 1484 p = if p < k then nI (pe_i w (y p)) else nI (y p)) → am_St d k_M_takesBack (am_st I Lg rr n) K 33 [some (.ref 1469), some (.int (nI e)), some (.int (nI k))] [] (am_st J Lg rr n) := by
    refine lp_up _ (fun k hk ih => ?_) ?_
    · intro J hJ hr hp
      have e1 : am_un (nI k) = k := n_un (by omega)
      have yk := yl k hk
      refine am_step _ _ _ (b_M_takesBack_33 ⟨fun _ => ?_, fun c => absurd (nI_lt hk (by decide)) c⟩)
      have e2 := hp k hk
      rw [if_neg (Nat.lt_irrefl k)] at e2
      rw [e1, e2, n_un (show y k < 2 ^ 32 by omega), hr _ yk, nI_add]
      refine ⟨hk, yk, hk, ih _ (fun c h1 h2 => by rw [am_sr_off _ _ h2, hJ c h1 h2]) (fun p hp2 => by rw [am_sr_off _ _ (by decide)]; exact hr p hp2) fun p hp2 => ?_⟩
      rw [am_sr_at]
      by_cases c : p = k
      · rw [c, am_u1_at, if_pos (Nat.lt_succ_self k)]
      · rw [am_u1_off _ _ c, hp p hp2]
        by_cases c2 : p < k
        · rw [if_pos c2, if_pos (by omega)]
        · rw [if_neg c2, if_neg (by omega)]
    · intro J hJ hr hp
      refine am_step _ _ _ (b_M_takesBack_33 ⟨fun c => absurd c (by decide), fun _ => h J hJ fun p hp2 => ?_⟩)
      rw [hp p hp2, if_pos hp2]
      rfl
  have key : ∀ k, k ≤ 24 → ∀ J, nb1 I J 1479 → (∀ p, p < k → J 1479 (w p) = nI p) → am_St d k_M_takesBack (am_st I Lg rr n) K 2 [some (.ref 1469), some (.int (nI e)), some (.int (nI k))] [] (am_st J Lg rr n) := by
    refine lp_up _ (fun k hk ih => ?_) ?_
    · intro J hJ hp
      have wl := wm.1.1 k hk
      refine am_step _ _ _ (b_M_takesBack_2 ⟨fun _ => ?_, fun c => absurd (nI_lt hk (by decide)) c⟩)
      have e2 : J 1482 (24 * e + k) = nI (w k) := by rw [hJ _ (by decide), hw k hk]
      rw [pk_mul, nI_add, n_un (show 24 * e + k < 2 ^ 32 by omega), e2, n_un (show w k < 2 ^ 32 by omega), nI_add]
      refine ⟨by omega, wl, ih _ (fun c hc => by rw [am_sr_off _ _ hc, hJ c hc]) fun p hpk => ?_⟩
      rw [am_sr_at]
      by_cases c : p = k
      · rw [c, am_u1_at]
      · rw [am_u1_off _ _ (fun q => c (wm.1.2 p k (by omega) hk q))]
        exact hp p (by omega)
    · intro J hJ hp
      refine am_step _ _ _ (b_M_takesBack_2 ⟨fun c => absurd c (by decide), fun _ => key2 0 (by decide) J (fun c h1 _ => hJ c h1) (fun q hq => ?_) fun p hp2 => ?_⟩)
      · have := pe_i_at wm hq
        have e := hp _ this.1
        rw [this.2] at e
        exact e
      · rw [if_neg (Nat.not_lt_zero p), hJ _ (by decide)]
        exact hy p hp2
  exact am_in _ _ _ (am_step _ _ _ (b_M_takesBack_0 (key 0 (by decide) I (fun _ _ => rfl) fun p hp => absurd hp (Nat.not_lt_zero p))))
theorem s_sifts (hd : 2 ≤ d) (hC : m_C I b T) (hw : mw b T) (hx : ip I 1484 x) (xm : pe_m x) (h1 : st (mt_D b T) (mt_u T) 24 x → ∀ J, rst I J → K (some (.int (am_k (-1)))) (am_st J Lg rr n)) (h0 : ¬ st (mt_D b T) (mt_u T) 24 x → ∀ J k y, rst I J → k < 24 → ip J 1484 y → pe_m y → fx b k y → ¬ mt_D b T k (y (b k)) → (∀ T2, mw b T2 → mx T T2 → st (mt_D b T2) (mt_u T2) (24 - k) y → st (mt_D b T2) (mt_u T2) 24 x) → (∀ X : (Nat → Nat) → Prop, X x → (∀ e f, e < T.1 → X f → X (pe_c (pe_i (T.2.2.2 e)) f)) → X y) → K (some (.int (nI k))) (am_st J Lg rr n)) : am_AC d k_M_sifts [.ref 1469] (am_st I Lg rr n) K := by
  obtain ⟨d, rfl, hd1⟩ := s_up hd
  have key : ∀ k, k ≤ 24 → ∀ J y, rst I J → ip J 1484 y → pe_m y → fx b k y → (st (mt_D b T) (mt_u T) 24 x ↔ st (mt_D b T) (mt_u T) (24 - k) y) → (∀ T2, mw b T2 → mx T T2 → st (mt_D b T2) (mt_u T2) (24 - k) y → st (mt_D b T2) (mt_u T2) 24 x) → (∀ X : (Nat → Nat) → Prop, X x → (∀ e f, e < T.1 → X f → X (pe_c (pe_i (T.2.2.2 e)) f)) → X y) → am_St d k_M_sifts (am_st I Lg rr n) K 2 [some (.ref 1469), some (.int (nI k)), none, none] [] (am_st J Lg rr n) := by
    refine lp_up _ (fun k hk ih => ?_) ?_
    · intro J y hJ hy ym yf hst hT hX
      obtain ⟨m1, m2, m3, m4⟩ := hC.fr hJ
      have bl := hw.1.1 k hk
      have yl := ym.1.1 _ bl
      have sf : ∀ T2, mw b T2 → (st (mt_D b T2) (mt_u T2) (24 - k) y ↔ mt_D b T2 k (y (b k)) ∧ st (mt_D b T2) (mt_u T2) (24 - (k + 1)) (pe_c (pe_i (mt_u T2 k (y (b k)))) y)) := fun T2 h2 => by
        have := st_sift (mw_ta h2) (n := 23 - k) (by omega) (f := y)
        rw [show 23 - k + 1 = 24 - k by omega, show 23 - (23 - k) = k by omega, show 23 - k = 24 - (k + 1) by omega] at this
        exact this
      have eI := m3 k (y (b k)) hk yl
      refine am_step _ _ _ (b_M_sifts_2 ⟨fun _ => ?_, fun c => absurd (nI_lt hk (by decide)) c⟩)
      rw [n_un (show k < 2 ^ 32 by omega), m2 k hk, n_un (show b k < 2 ^ 32 by omega), hy _ bl, pk_mul, nI_add, n_un (show 24 * k + y (b k) < 2 ^ 32 by omega), eI]
      refine ⟨hk, bl, by omega, fun c => ⟨hk, fun c2 => ⟨fun _ => ?_, fun c3 => absurd c c3⟩, fun c2 => ?_⟩, fun c => ⟨fun c2 => absurd c2 c, fun _ => ?_⟩⟩
      · rw [nI_eq (by omega) (by omega)] at c2
        have e0 : ∀ T2, mw b T2 → mt_u T2 k (y (b k)) = pe_1 := fun T2 h2 => by
          rw [c2]
          exact if_pos (mw_b0 h2 hk)
        have e9 : ∀ T2, mw b T2 → (st (mt_D b T2) (mt_u T2) (24 - k) y ↔ st (mt_D b T2) (mt_u T2) (24 - (k + 1)) y) := fun T2 h2 => by
          rw [sf T2 h2, e0 T2 h2, pe_i1]
          exact ⟨fun q => q.2, fun q => ⟨⟨yl, Or.inl c2⟩, q⟩⟩
        refine am_step _ _ _ (b_M_sifts_57 ?_)
        rw [nI_add]
        exact am_fg (le_same _ (le_same _ (le_int _ (le_int _ le_nil)))) (ih J y hJ hy ym (fx_s yf c2) (hst.trans (e9 T hw)) (fun T2 a1 a2 a3 => hT T2 a1 a2 ((e9 T2 a1).mpr a3)) hX)
      · rw [nI_eq (by omega) (by omega)] at c2
        have E0 : T.2.2.1 k (y (b k)) = 0 := Classical.byContradiction fun q => by
          rw [if_neg q] at c
          have := (hw.2.1 k _ hk yl q).1
          have := mw_124 hw
          exact nz_lt _ (by omega) c
        have nD : ¬ mt_D b T k (y (b k)) := fun q => q.2.elim c2 fun q => q E0
        exact h0 (fun q => nD ((sf T hw).mp (hst.mp q)).1) J k y hJ hk hy ym yf nD hT hX
      · have E1 : ¬ T.2.2.1 k (y (b k)) = 0 := fun q => c (by rw [if_pos q]; decide)
        rw [if_neg E1]
        obtain ⟨a1, a2, a3, a4⟩ := hw.2.1 k _ hk yl E1
        obtain ⟨b1, b2, b3, b4, b5, b6⟩ := hw.2.2 _ a1
        have N124 := mw_124 hw
        rw [a2] at b3
        have hD : mt_D b T k (y (b k)) := ⟨yl, Or.inr E1⟩
        have eu : mt_u T k (y (b k)) = T.2.2.2 (T.2.2.1 k (y (b k)) - 1) := if_neg E1
        refine s_takesBack (by omega) (by omega) b2 (m4 _ a1).2 ym.1.1 hy fun J2 hJ2 hp2 => ⟨rfl, am_step _ _ _ (b_M_sifts_57 ?_)⟩
        rw [nI_add]
        refine am_fg (le_same _ (le_same _ (le_int _ (le_int _ le_nil)))) (ih J2 _ (fun c q1 q2 => by rw [hJ2 c q1 q2, hJ c q1 q2]) hp2 (pe_c_m (pe_i_m b2) ym) (fx_s (fx_c (fx_i b2 b3) yf) (pe_inj b2 ?_)) ?_ (fun T2 q1 q2 q3 => hT T2 q1 q2 ?_) fun X q1 q2 => q2 _ _ a1 (hX X q1 q2))
        · show T.2.2.2 _ (pe_i (T.2.2.2 _) (y (b k))) = T.2.2.2 _ (b k)
          rw [pe_i_r b2, a3]
        · rw [hst, sf T hw, eu]
          exact ⟨fun q => q.2, fun q => ⟨hD, q⟩⟩
        · have := mx_st hw q1 q2 k _ hk hD
          rw [sf T2 q1, this.2, eu]
          exact ⟨this.1, q3⟩
    · intro J y hJ hy ym yf hst hT hX
      exact am_step _ _ _ (b_M_sifts_2 ⟨fun c => absurd c (by decide), fun _ => h1 (hst.mpr (fx_1 hw.1 ym yf)) J hJ⟩)
  exact am_in _ _ _ (am_step _ _ _ (b_M_sifts_0 (key 0 (by decide) I x (fun _ _ _ => rfl) hx xm (fun j hj => absurd hj (Nat.not_lt_zero j)) Iff.rfl (fun T2 _ _ q => q) fun X q _ => q)))
theorem s_adds (hd : 3 ≤ d) (hC : m_C I b T) (hw : mw b T) (hx : ip I 1484 x) (xm : pe_m x) (kp : g_pvb x = true) (h : ∀ J T2, adF I J → m_C J b T2 → mw b T2 → mx T T2 → st (mt_D b T2) (mt_u T2) 24 x → (∀ S : (Nat → Nat) → Prop, (∀ s, S s → pe_m s) → ge S x → (∀ e, e < T.1 → ge S (T.2.2.2 e)) → ∀ e, e < T2.1 → ge S (T2.2.2.2 e)) → K none (am_st J Lg rr n)) : am_AC d k_M_adds [.ref 1469] (am_st I Lg rr n) K := by
  obtain ⟨d, rfl, hd1⟩ := s_up hd
  refine am_in _ _ _ (am_step _ _ _ (b_M_adds_0 (s_sifts (by omega) hC hw hx xm (fun hst J hJ => ⟨_, rfl, am_step _ _ _ (b_M_adds_4 ⟨fun _ => ?_, fun c => absurd (by decide) c⟩)⟩) (fun hst J k y hJ hk hy ym yf hD hT hX => ⟨_, rfl, am_step _ _ _ (b_M_adds_4 ⟨fun c => absurd c (nz_lt k (by omega)), fun _ => ?_⟩)⟩))))
  · exact h J T (rst_ad hJ) (hC.fr hJ) hw mx_r hst fun S _ _ q => q
  · have yk : pe_m y ∧ g_pvb y = true := hX (fun f => pe_m f ∧ g_pvb f = true) ⟨xm, kp⟩ fun e f he q => ⟨pe_c_m (pe_i_m (hw.2.2 e he).2.1) q.1, pvb_c (pe_i_m (hw.2.2 e he).2.1).1 (pvb_i (hw.2.2 e he).2.1 (hw.2.2 e he).2.2.2.1) q.1.1 q.2⟩
    obtain ⟨w2, x2⟩ := ta_mw hw hk ym yf yk.2 rfl hD
    have N2 := mw_124 w2
    have N2 : T.1 + 1 ≤ 124 := N2
    obtain ⟨m1, m2, m3, m4⟩ := hC.fr hJ
    have bl := hw.1.1 k hk
    have yl := ym.1.1 _ bl
    have en : am_un (nI T.1) = T.1 := n_un (by omega)
    refine ⟨fun c => ?_, fun _ => ?_⟩
    · rw [m1, nI_eq (by omega) (by decide)] at c
      omega
    · rw [n_un (show k < 2 ^ 32 by omega), m2 k hk, n_un (show b k < 2 ^ 32 by omega), hy _ bl, pk_mul, nI_add, n_un (show 24 * k + y (b k) < 2 ^ 32 by omega), am_sr_off _ _ (show ¬ (1469 : Nat) = 1481 by decide), am_sr_off _ _ (show ¬ (1483 : Nat) = 1481 by decide), m1, en]
      refine ⟨hk, bl, by omega, by omega, ?_⟩
      have fin : ∀ p, p ≤ 24 → ∀ L, (∀ c, ¬ c = 1482 → L c = am_sr (am_sr J 1481 (am_u1 (J 1481) (24 * k + y (b k)) (nI T.1))) 1483 (am_u1 (J 1483) T.1 (nI k)) c) → (∀ i, (∀ j, j < 24 → ¬ i = 24 * T.1 + j) → L 1482 i = J 1482 i) → (∀ j, j < p → L 1482 (24 * T.1 + j) = nI (y j)) → am_St d k_M_adds (am_st I Lg rr n) K 56 [some (.ref 1469), some (.int (nI k)), some (.int (nI p))] [] (am_st L Lg rr n) := by
        refine lp_up _ (fun p hp ih => ?_) ?_
        · intro L hL hL2 hL3
          have l1 : L 1469 19 = nI T.1 := by rw [hL _ (by decide), am_sr_off _ _ (by decide), am_sr_off _ _ (by decide), m1]
          have l2 : L 1484 p = nI (y p) := by rw [hL _ (by decide), am_sr_off _ _ (by decide), am_sr_off _ _ (by decide), hy p hp]
          refine am_step _ _ _ (b_M_adds_56 ⟨fun _ => ?_, fun c => absurd (nI_lt hp (by decide)) c⟩)
          rw [l1, pk_mul, nI_add, nI_add, n_un (show p < 2 ^ 32 by omega), n_un (show 24 * T.1 + p < 2 ^ 32 by omega), l2]
          refine ⟨hp, by omega, ih _ (fun c hc => by rw [am_sr_off _ _ hc, hL c hc]) (fun i hi => ?_) fun j hj => ?_⟩
          · rw [am_sr_at, am_u1_off _ _ (hi p hp)]
            exact hL2 i hi
          · rw [am_sr_at]
            by_cases c : j = p
            · rw [c, am_u1_at]
            · rw [am_u1_off _ _ (by omega)]
              exact hL3 j (by omega)
        · intro L hL hL2 hL3
          refine am_step _ _ _ (b_M_adds_56 ⟨fun c => absurd c (by decide), fun _ => ?_⟩)
          have l1 : L 1469 19 = nI T.1 := by rw [hL _ (by decide), am_sr_off _ _ (by decide), am_sr_off _ _ (by decide), m1]
          have off : ∀ c, ¬ c = 1469 → am_sr L 1469 (am_u1 (L 1469) 19 (L 1469 19 + nI 1)) c = L c := fun c hc => am_sr_off _ _ hc
          refine h _ (t_a T k y (y (b k))) ⟨fun c q1 q2 q3 q4 q5 q6 => ?_, fun j hj => ?_⟩ ⟨?_, fun j hj => ?_, fun j p hj hp => ?_, fun e he => ?_⟩ w2 x2 (hT _ w2 x2 ?_) fun S sm hS hU e he => ?_
          · rw [off c q6, hL c q4, am_sr_off _ _ q5, am_sr_off _ _ q3, hJ c q1 q2]
          · rw [am_sr_at, am_u1_off _ _ hj, hL _ (by decide), am_sr_off _ _ (by decide), am_sr_off _ _ (by decide), hJ _ (by decide) (by decide)]
          · rw [am_sr_at, am_u1_at, l1, nI_add]
            rfl
          · rw [off _ (by decide), hL _ (by decide), am_sr_off _ _ (by decide), am_sr_off _ _ (by decide), m2 j hj]
          · rw [off _ (by decide), hL _ (by decide), am_sr_off _ _ (by decide), am_sr_at, ta_E]
            by_cases c : j = k ∧ p = y (b k)
            · rw [if_pos c, c.1, c.2, am_u1_at, if_neg (by omega)]
              rfl
            · rw [if_neg c, am_u1_off _ _ (by omega), m3 j p hj hp]
          · rw [off 1483 (by decide), off 1482 (by decide), hL 1483 (by decide), am_sr_at]
            by_cases c : e = T.1
            · rw [c, am_u1_at]
              have e1 : (t_a T k y (y (b k))).2.1 T.1 = k := am_u1_at _ _ _
              have e2 : (t_a T k y (y (b k))).2.2.2 T.1 = y := am_u1_at _ _ _
              rw [e1, e2]
              exact ⟨rfl, fun p hp => hL3 p hp⟩
            · have he : e < T.1 + 1 := he
              have e1 : (t_a T k y (y (b k))).2.1 e = T.2.1 e := am_u1_off _ _ c
              have e2 : (t_a T k y (y (b k))).2.2.2 e = T.2.2.2 e := am_u1_off _ _ c
              rw [am_u1_off _ _ c, e1, e2]
              refine ⟨(m4 e (by omega)).1, fun p hp => ?_⟩
              rw [hL2 _ fun j hj => by omega]
              exact (m4 e (by omega)).2 p hp
          · have hD2 : mt_D b (t_a T k y (y (b k))) k (y (b k)) := ⟨yl, Or.inr (by rw [ta_E, if_pos ⟨rfl, rfl⟩]; omega)⟩
            have hu2 : mt_u (t_a T k y (y (b k))) k (y (b k)) = y := by
              have eE : (t_a T k y (y (b k))).2.2.1 k (y (b k)) = T.1 + 1 := by rw [ta_E, if_pos ⟨rfl, rfl⟩]
              unfold mt_u
              rw [eE, if_neg (by omega)]
              exact am_u1_at _ _ _
            have := st_u (mw_ta w2) (n := 23 - k) (q := y (b k)) (by omega) (by rw [show 23 - (23 - k) = k by omega]; exact hD2)
            rw [show 23 - (23 - k) = k by omega, hu2, show 23 - k + 1 = 24 - k by omega] at this
            exact this
          · by_cases c : e = T.1
            · have e2 : (t_a T k y (y (b k))).2.2.2 T.1 = y := am_u1_at _ _ _
              rw [c, e2]
              exact hX (ge S) hS fun e f he q => ge_c (ge_i sm (hU e he)) q
            · have he : e < T.1 + 1 := he
              have e2 : (t_a T k y (y (b k))).2.2.2 e = T.2.2.2 e := am_u1_off _ _ c
              rw [e2]
              exact hU e (by omega)
      exact fin 0 (by decide) _ (fun c _ => rfl) (fun i _ => by rw [am_sr_off _ _ (by decide), am_sr_off _ _ (by decide)]) fun j hj => absurd hj (Nat.not_lt_zero j)
theorem s_tries {e f : Nat} (hd : 4 ≤ d) (hC : m_C I b T) (hw : mw b T) (he : e < T.1) (hf : f < T.1) (h : ∀ J T2, adF I J → m_C J b T2 → mw b T2 → mx T T2 → (T.2.1 e ≤ T.2.1 f → st (mt_D b T2) (mt_u T2) 24 (pe_c (T.2.2.2 f) (T.2.2.2 e))) → (∀ S : (Nat → Nat) → Prop, (∀ s, S s → pe_m s) → (∀ e, e < T.1 → ge S (T.2.2.2 e)) → ∀ e, e < T2.1 → ge S (T2.2.2.2 e)) → K none (am_st J Lg rr n)) : am_AC d k_M_tries [.ref 1469, .int (nI e), .int (nI f)] (am_st I Lg rr n) K := by
  obtain ⟨d, rfl, hd1⟩ := s_up hd
  have N124 := mw_124 hw
  have ⟨m1, m2, m3, m4⟩ := hC
  have we := hw.2.2 e he
  have wf := hw.2.2 f hf
  refine am_in _ _ _ (am_step _ _ _ (b_M_tries_0 ?_))
  rw [n_un (show e < 2 ^ 32 by omega), n_un (show f < 2 ^ 32 by omega), (m4 e he).1, (m4 f hf).1]
  have key : ∀ k, k ≤ 24 → ∀ J, nb1 I J 1484 → (∀ p, p < k → J 1484 p = nI (T.2.2.2 f (T.2.2.2 e p))) → am_St d k_M_tries (am_st I Lg rr n) K 18 [some (.ref 1469), some (.int (nI e)), some (.int (nI f)), some (.int (nI k))] [] (am_st J Lg rr n) := by
    refine lp_up _ (fun k hk ih => ?_) ?_
    · intro J hJ hp
      have a1 : J 1482 (24 * e + k) = nI (T.2.2.2 e k) := by rw [hJ _ (by decide), (m4 e he).2 k hk]
      have al := we.2.1.1.1 k hk
      have a2 : J 1482 (24 * f + T.2.2.2 e k) = nI (T.2.2.2 f (T.2.2.2 e k)) := by rw [hJ _ (by decide), (m4 f hf).2 _ al]
      refine am_step _ _ _ (b_M_tries_18 ⟨fun _ => ?_, fun c => absurd (nI_lt hk (by decide)) c⟩)
      rw [pk_mul, pk_mul, nI_add, n_un (show 24 * e + k < 2 ^ 32 by omega), a1, nI_add, n_un (show 24 * f + T.2.2.2 e k < 2 ^ 32 by omega), a2, nI_add, n_un (show k < 2 ^ 32 by omega)]
      refine ⟨by omega, by omega, hk, ih _ (fun c hc => by rw [am_sr_off _ _ hc, hJ c hc]) fun p hp2 => ?_⟩
      rw [am_sr_at]
      by_cases c : p = k
      · rw [c, am_u1_at]
      · rw [am_u1_off _ _ c]
        exact hp p (by omega)
    · intro J hJ hp
      refine am_step _ _ _ (b_M_tries_18 ⟨fun c => absurd c (by decide), fun _ => s_adds (by omega) (hC.fr fun c _ h2 => hJ c h2) hw (x := pe_c (T.2.2.2 f) (T.2.2.2 e)) hp (pe_c_m wf.2.1 we.2.1) (pvb_c wf.2.1.1 wf.2.2.2.1 we.2.1.1 we.2.2.2.1) fun J2 T2 q1 q2 q3 q4 q5 q6 => ⟨rfl, am_step _ _ _ (b_M_tries_61 ?_)⟩⟩)
      exact h J2 T2 (adF_t (rst_ad fun c _ h2 => hJ c h2) q1) q2 q3 q4 (fun _ => q5) fun S sm hU => q6 S sm (ge_c (hU f hf) (hU e he)) hU
  refine ⟨by omega, by omega, fun c => ?_, fun c => key 0 (by decide) I (fun _ _ => rfl) fun p hp => absurd hp (Nat.not_lt_zero p)⟩
  refine h I T ⟨fun _ _ _ _ _ _ _ => rfl, fun _ _ => rfl⟩ hC hw mx_r (fun q => absurd c (nI_nlt q (by omega))) fun S _ q => q
end MC
