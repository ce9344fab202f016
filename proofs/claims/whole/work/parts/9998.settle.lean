/-! THE CLASS'S CHAIN: settle, and the method that lw_nm9 names -/
section AD
variable {Lg : Nat → Nat → Int64} {rr : Nat → Nat → Option Nat} {nn : Nat} {b : Nat → Nat}
def admOK (Lg : Nat → Nat → Int64) (rr : Nat → Nat → Option Nat) (nn : Nat) (b : Nat → Nat) (n d : Nat) : Prop := ∀ (K : Option Value → am_M → Prop) (I : Nat → Nat → Int32) (C : c_T) (a : Nat) (x : Nat → Nat), c_C I b C → cw b C → gd b C (n + 1) → am_ro 1497 a 24 → ip I a x → pe_m x → fx b (23 - n) x → g_pvb x = true → ¬ st (t_D C) (t_u C) (n + 1) x → (∀ J C2, ch I J → c_C J b C2 → aP b n C C2 x → K none (am_st J Lg rr nn)) → am_AC d k_Ch_admit [.ref 26, .int (nI (23 - n)), .ref a] (am_st I Lg rr nn) K
theorem s_settle {K : Option Value → am_M → Prop} {I : Nat → Nat → Int32} {C : c_T} {x : Nat → Nat} {n k e : Nat} (hn : n < 24) (hk : k = 23 - n) (he : 4 ≤ e) (hA : ∀ m, n = m + 1 → admOK Lg rr nn b m e) (hC : c_C I b C) (hw : cw b C) (hg : gd b C n) (hu : ∀ q, t_D C (23 - n) q → ge (t_S C (23 - n)) (t_u C (23 - n) q)) (hs : ∀ g, t_S C (24 - n) g → ge (t_S C (23 - n)) g) (hx : ip I (1307 + k) x) (xm : pe_m x) (xf : fx b (23 - n) x) (kp : g_pvb x = true) (xg : ge (t_S C (23 - n)) x) (h : ∀ J C2, ch I J → c_C J b C2 → lP b n C C2 → st (t_D C2) (t_u C2) (n + 1) x → K none (am_st J Lg rr nn)) : am_AC (e + 1) k_Ch_settle [.ref 26, .int (nI k), .ref (1307 + k)] (am_st I Lg rr nn) K := by
  have hk24 : k < 24 := by omega
  have ra : am_ro 1497 (1307 + k) 24 := ch_ro (by omega) (by omega) (by omega)
  have eu : am_un (nI k) = k := n_un (by omega)
  have bl := hw.1.1.1 k hk24
  have ql := xm.1.1 _ bl
  obtain ⟨r1, r2, r3, r4, r5, r6, r7⟩ := hC k hk24
  refine am_in _ _ _ (am_step _ _ _ (b_Ch_settle_0 ?_))
  rw [eu, r1]
  refine ⟨hk24, s_Mo_to (by omega) ra bl (hx _ bl) ⟨_, rfl, am_step _ _ _ (b_Ch_settle_10 (s_isOutside (by omega) ⟨_, rfl, am_step _ _ _ (b_Ch_settle_17 ?_)⟩))⟩⟩
  rw [out_24 ql]
  refine ⟨fun _ => s_isReached (by omega) hk24 ql r3 (hw.2.2 k hk24).1 (fun ht => ⟨_, rfl, am_step _ _ _ (b_Ch_settle_27 ⟨fun c => absurd c (by decide), fun _ => ?_⟩)⟩) (fun ht => ⟨_, rfl, am_step _ _ _ (b_Ch_settle_27 ⟨fun _ => ?_, fun c => absurd rfl c⟩)⟩), fun c => absurd rfl c⟩
  · have ht : t_D C k (x (b k)) := ht
    have vm := ((hw.2.2 k hk24).2.2.2.1 _ ht).1
    have um := (hw.1.2 k hk24).2.2 _ ht
    have ve : pe_i (t_u C k (x (b k))) = C.2.2.2.2.1 k (x (b k)) := pe_ii vm
    refine s_back (by omega) hk24 ql ⟨_, rfl, am_step _ _ _ (b_Ch_settle_45 (c_follow (by omega) ra (ch_ro (by omega) (by omega) (by omega)) (by omega) hx xm.1.1 (r6 _ ht) fun J hJ hp => ⟨rfl, am_step _ _ _ (b_Ch_settle_48 ?_)⟩))⟩
    have hCJ : c_C J b C := hC.fr hw fun c _ _ => hJ c (by omega)
    have x2m := pe_c_m vm xm
    have x2f : fx b (k + 1) (pe_c (C.2.2.2.2.1 k (x (b k))) x) := by
      refine fx_s (fx_c ?_ (hk ▸ xf)) ?_
      · rw [← ve]
        exact fx_i um.2.1 um.2.2.2
      · show C.2.2.2.2.1 k (x (b k)) (x (b k)) = b k
        rw [← ve]
        exact pe_inj um.2.1 (by rw [pe_i_r um.2.1, um.2.2.1])
    have x2p : g_pvb (pe_c (C.2.2.2.2.1 k (x (b k))) x) = true := by
      refine pvb_c vm.1 ?_ xm.1 kp
      rw [← ve]
      exact pvb_i um.2.1 ((hw.2.2 k hk24).2.2.2.1 _ ht).2
    rw [nI_add]
    refine s_contains (by omega) (by omega) hCJ hw ra hp x2m x2f (fun hst J2 hJ2 => ⟨_, rfl, am_step _ _ _ (b_Ch_settle_56 ⟨fun c => absurd c (by decide), fun _ => am_step _ _ _ (b_Ch_settle_67 ?_)⟩)⟩) (fun hst J2 hJ2 => ⟨_, rfl, am_step _ _ _ (b_Ch_settle_56 ⟨fun _ => ?_, fun c => absurd rfl c⟩)⟩)
    · rw [show 24 - (k + 1) = n by omega] at hst
      refine h J2 C (fun c hc => by rw [hJ2 c (by omega), hJ c (by omega)]) (hCJ.fr hw fun c _ _ => hJ2 c (by omega)) (lP_same hw hg hu hs) ?_
      rw [st_sift hw.1 hn, ← hk, ve]
      exact ⟨ht, hst⟩
    · rw [show 24 - (k + 1) = n by omega] at hst
      cases n with
      | zero =>
        refine absurd ?_ hst
        have : k = 23 := hk
        rw [this] at x2f
        rw [this]
        exact fx_1 hw.1.1 (this ▸ x2m) x2f
      | succ m =>
        rw [nI_add, show k + 1 = 23 - m by omega]
        refine hA m rfl _ J2 C _ _ (hCJ.fr hw fun c _ _ => hJ2 c (by omega)) hw hg ra (fun p hp2 => by rw [hJ2 _ (by omega)]; exact hp p hp2) x2m (by rw [show 23 - m = k + 1 by omega]; exact x2f) x2p hst fun J3 C2 hJ3 hC3 hP => ⟨rfl, am_step _ _ _ (b_Ch_settle_67 ?_)⟩
        rw [hk] at hP
        have := lP_adm hn hw hu hs rfl xg (hk ▸ ht) hP
        exact h J3 C2 (fun c hc => by rw [hJ3 c hc, hJ2 c (by omega), hJ c (by omega)]) hC3 this.1 this.2
  · have ht : ¬ t_D C (23 - n) (x (b (23 - n))) := hk ▸ ht
    rw [hk] at hx ra ⊢
    refine s_reach (by omega) (by omega) hC hw ra (by omega) hx xm xf rfl kp ht fun J hJ hCJ hwJ => ⟨rfl, am_step _ _ _ (b_Ch_settle_37 ?_)⟩
    have := lP_reach hn hw hg hu hs xm xf rfl kp xg ht
    exact h J _ hJ hCJ this.1 this.2
theorem tg_C {I J : Nat → Nat → Int32} {C : c_T} {k : Nat} {x : Nat → Nat} (hk : k < 24) (hC : c_C I b C) (hw : cw b C) (hc : C.2.2.1 k < 28) (h1 : nb1 I J (634 + (28 * k + C.2.2.1 k))) (h2 : ip J (634 + (28 * k + C.2.2.1 k)) x) : c_C (am_sr J 632 (am_u1 (J 632) k (nI (C.2.2.1 k + 1)))) b (t_g C k x) := fun j hj => by
  obtain ⟨s1, s2, s3, s4, s5, s6, s7⟩ := hC j hj
  have jf : ∀ c, ¬ c = 632 → ¬ c = 634 + (28 * k + C.2.2.1 k) → am_sr J 632 (am_u1 (J 632) k (nI (C.2.2.1 k + 1))) c = I c := fun c q1 q2 => by rw [am_sr_off _ _ q1, h1 c q2]
  have wj := hw.2.2 j hj
  refine ⟨by rw [jf _ (by omega) (by omega), s1], by rw [jf _ (by omega) (by omega), s2]; rfl, by rw [jf _ (by omega) (by omega), s3]; rfl, ?_, fun i hi => by rw [jf _ (by omega) (by omega)]; exact s5 i hi, fun p hp => ?_, fun i hi p hp => ?_⟩
  · rw [am_sr_at]
    by_cases c : j = k
    · rw [c, am_u1_at, tg_c]
    · rw [am_u1_off _ _ c, h1 _ (by omega), s4, tg_co c]
  · have p24 := ((hw.1.2 j hj).2.2 p hp).1
    intro y hy
    rw [jf _ (by omega) (by omega)]
    exact s6 p hp y hy
  · by_cases c : j = k
    · rw [c] at hi s7 ⊢
      rw [tg_c] at hi
      rw [tg_g]
      by_cases c2 : i = C.2.2.1 k
      · rw [c2, am_u1_at, am_sr_off _ _ (by omega)]
        exact h2 p hp
      · rw [am_u1_off _ _ c2, jf _ (by omega) (by omega)]
        exact s7 i (by omega) p hp
    · rw [tg_co c] at hi
      rw [tg_go c, jf _ (by omega) (by omega)]
      exact s7 i hi p hp
theorem s_adm1 (n : Nat) (hn : n < 24) (d : Nat) (hd : 2 * n + 6 ≤ d) (hA : ∀ m, n = m + 1 → admOK Lg rr nn b m (d - 2)) : admOK Lg rr nn b n d := by
  intro K I C a x hC hw hg ha hx xm xf kp hst h
  obtain ⟨d, rfl, hd1⟩ := s_up (show 1 + 1 ≤ d by omega)
  obtain ⟨d, rfl, hd2⟩ := s_up (show 0 + 1 ≤ d by omega)
  have hA : ∀ m, n = m + 1 → admOK Lg rr nn b m d := hA
  have k24 : 23 - n < 24 := by omega
  have eu : am_un (nI (23 - n)) = 23 - n := n_un (by omega)
  have hc := cnt_28 hn hw hg
  have cl2 : C.2.2.1 (23 - n) < 2 ^ 31 := by omega
  obtain ⟨r1, r2, r3, r4, r5, r6, r7⟩ := hC (23 - n) k24
  have key : ∀ i, i ≤ 24 → ∀ J C2, ch I J → c_C J b C2 → lP b n (t_g C (23 - n) x) C2 → (∀ a' e', a' < C2.1 (23 - n) → e' ≤ C.2.2.1 (23 - n) → (a' < i ∨ (a' < C.1 (23 - n) ∧ e' < C.2.2.1 (23 - n))) → st (t_D C2) (t_u C2) (n + 1) (pe_c ((t_g C (23 - n) x).2.2.2.2.2 (23 - n) e') (t_u C2 (23 - n) (C2.2.2.2.1 (23 - n) a')))) → am_St (d + 1) k_Ch_admit (am_st I Lg rr nn) K 61 [some (.ref 26), some (.int (nI (23 - n))), some (.ref a), some (.int (nI (C.2.2.1 (23 - n)))), some (.int (nI (C.1 (23 - n)))), some (.int (nI i)), none, none] [] (am_st J Lg rr nn) := by
    have fin : ∀ i J C2, C2.1 (23 - n) ≤ i → ch I J → c_C J b C2 → lP b n (t_g C (23 - n) x) C2 → (∀ a' e', a' < C2.1 (23 - n) → e' ≤ C.2.2.1 (23 - n) → (a' < i ∨ (a' < C.1 (23 - n) ∧ e' < C.2.2.1 (23 - n))) → st (t_D C2) (t_u C2) (n + 1) (pe_c ((t_g C (23 - n) x).2.2.2.2.2 (23 - n) e') (t_u C2 (23 - n) (C2.2.2.2.1 (23 - n) a')))) → K none (am_st J Lg rr nn) := fun i J C2 hi hJ hCJ hP hD => h J C2 hJ hCJ (aP_end hn hw hg xm xf hst hP fun a' e' h1 h2 => hD a' e' h1 h2 (Or.inl (by omega)))
    refine lp_up _ (fun i hi ih => ?_) ?_
    · intro J C2 hJ hCJ hP hD
      obtain ⟨s1, s2, s3, s4, s5, s6, s7⟩ := hCJ (23 - n) k24
      have bd := s_bd hP.1.1 k24 (hP.1.2.2 _ k24).2.1
      refine am_step _ _ _ (b_Ch_admit_61 ?_)
      rw [eu, s2]
      refine ⟨k24, fun hlt => ⟨fun _ => ?_, fun c => absurd (nI_lt hi (by decide)) c⟩, fun hge => ?_⟩
      · have hlt : i < C2.1 (23 - n) := Nat.lt_of_not_le fun q => absurd hlt (nI_nlt q (by omega))
        have inner : ∀ e, e ≤ C.2.2.1 (23 - n) + 1 → ∀ J C2, ch I J → c_C J b C2 → lP b n (t_g C (23 - n) x) C2 → i < C2.1 (23 - n) → (∀ a' e', a' < C2.1 (23 - n) → e' ≤ C.2.2.1 (23 - n) → (a' < i ∨ (a' < C.1 (23 - n) ∧ e' < C.2.2.1 (23 - n)) ∨ (a' = i ∧ e' < e)) → st (t_D C2) (t_u C2) (n + 1) (pe_c ((t_g C (23 - n) x).2.2.2.2.2 (23 - n) e') (t_u C2 (23 - n) (C2.2.2.2.1 (23 - n) a')))) → am_St (d + 1) k_Ch_admit (am_st I Lg rr nn) K 93 [some (.ref 26), some (.int (nI (23 - n))), some (.ref a), some (.int (nI (C.2.2.1 (23 - n)))), some (.int (nI (C.1 (23 - n)))), some (.int (nI i)), some (.int (nI e)), none] [] (am_st J Lg rr nn) := by
          refine lp_up _ (fun e he ih2 => ?_) ?_
          · intro J C2 hJ hCJ hP hlt hD
            obtain ⟨s1, s2, s3, s4, s5, s6, s7⟩ := hCJ (23 - n) k24
            obtain ⟨w1, w2, w3, w4, w5⟩ := hP.1.2.2 _ k24
            have rk : am_ro 1497 (31 + (23 - n)) 24 := ch_ro (by omega) (by omega) (by omega)
            have ee : am_un (nI e) = e := n_un (by omega)
            have qD := w2.1 i hlt
            have ol : C2.2.2.2.1 (23 - n) i < 24 := ((hP.1.1.2 _ k24).2.2 _ qD).1
            have um := (hP.1.1.2 _ k24).2.2 _ qD
            have vm := (w4 _ qD).1
            have ec : e < C2.2.2.1 (23 - n) := by
              rw [hP.2.2.2.2.1.1, tg_c]
              exact he
            have gm := w5 e ec
            have gS : t_S C2 (23 - n) (C2.2.2.2.2.2 (23 - n) e) := ⟨e, ec, rfl⟩
            have gf : fx b (23 - n) (C2.2.2.2.2.2 (23 - n) e) := by
              rcases tg_S.mp ((tS_eq hP.2.2.2.2.1.1 hP.2.2.2.2.1.2 _).mp gS) with q | q
              · exact (hg.1.2.1 _ q).2
              · rw [q]
                exact xf
            have hu := hP.2.2.2.2.2.2.1 _ qD
            refine am_step _ _ _ (b_Ch_admit_93 ⟨fun c => absurd c (nI_nlt (show e ≤ C.2.2.1 (23 - n) by omega) (by omega)), fun _ => ?_⟩)
            rw [eu]
            refine ⟨k24, am_obi (RR_30 rr _ k24) (am_gi (oS_ro rk) ?_)⟩
            rw [rk.n, n_un (show i < 2 ^ 32 by omega), s5 i hlt]
            refine ⟨hi, s_back (by omega) k24 ol ⟨_, rfl, am_step _ _ _ (b_Ch_admit_113 ?_)⟩⟩
            rw [pk_mul, nI_add, n_un (show (23 - n) * 28 + e < 2 ^ 32 by omega), eu, show (23 - n) * 28 + e = 28 * (23 - n) + e by omega]
            refine ⟨by omega, am_obi (RR_633 rr _ (by omega)) ⟨k24, am_obi (RR_1306 rr _ k24) (c_combine (by omega) (ch_ro (by omega) (by omega) (by omega)) (ch_ro (by omega) (by omega) (by omega)) (ch_ro (by omega) (by omega) (by omega)) (by omega) (by omega) vm (s6 _ qD) (s7 e ec) fun J2 hJ2 hp2 => ⟨rfl, am_step _ _ _ (b_Ch_admit_138 ?_)⟩)⟩⟩
            rw [eu]
            have hCJ2 : c_C J2 b C2 := hCJ.fr hP.1 fun c _ _ => hJ2 c (by omega)
            refine ⟨k24, am_obi (RR_1306 rr _ k24) (s_settle hn rfl (by omega) hA hCJ2 hP.1 hP.2.2.2.2.2.1 hP.2.2.2.2.2.2.1 hP.2.2.2.2.2.2.2 hp2 (pe_c_m gm.1 (pe_i_m vm)) (fx_c gf um.2.2.2) (pvb_c gm.1.1 gm.2 (pe_i_m vm).1 (w4 _ qD).2) (ge_s gS hu) fun J3 C3 hJ3 hC3 hP3 hst3 => ⟨rfl, am_step _ _ _ (b_Ch_admit_149 ?_)⟩)⟩
            rw [nI_add]
            refine am_fg (le_same _ (le_same _ (le_same _ (le_same _ (le_same _ (le_same _ (le_same _ (le_ref _ le_nil)))))))) (ih2 J3 C3 (fun c hc => by rw [hJ3 c hc, hJ2 c (by omega), hJ c hc]) hC3 (lP_t hP hP3) (Nat.lt_of_lt_of_le hlt hP3.2.2.2.1.1) fun a' e' h1 h2 h3 => ?_)
            have b1 := hP.2.2.2.1.1
            have b1 : C.1 (23 - n) ≤ C2.1 (23 - n) := b1
            have a2 : a' < C2.1 (23 - n) := by omega
            have eo2 : C3.2.2.2.1 (23 - n) a' = C2.2.2.2.1 (23 - n) a' := hP3.2.2.2.1.2 a' a2
            have eu3 : t_u C3 (23 - n) (C3.2.2.2.1 (23 - n) a') = t_u C2 (23 - n) (C2.2.2.2.1 (23 - n) a') := by
              rw [eo2]
              exact congrArg pe_i (hP3.2.2.1 _ _ k24 (w2.1 a' a2)).2
            rw [eu3]
            by_cases cc : a' = i ∧ e' = e
            · rw [cc.1, cc.2, ← hP.2.2.2.2.1.2]
              exact hst3
            · exact gw_st hP3.2.2.1 (by omega) (hD a' e' a2 h2 (by omega))
          · intro J C2 hJ hCJ hP hlt hD
            refine am_step _ _ _ (b_Ch_admit_93 ⟨fun _ => ?_, fun c => absurd (nI_lt (Nat.lt_succ_self _) (by omega)) c⟩)
            rw [nI_add]
            exact am_fg (le_same _ (le_same _ (le_same _ (le_same _ (le_same _ (le_same _ (le_int _ (le_same _ le_nil)))))))) (ih J C2 hJ hCJ hP fun a' e' h1 h2 h3 => hD a' e' h1 h2 (by omega))
        refine ⟨fun q => inner _ (by omega) J C2 hJ hCJ hP hlt fun a' e' h1 h2 h3 => hD a' e' h1 h2 ?_, fun q => inner 0 (by omega) J C2 hJ hCJ hP hlt fun a' e' h1 h2 h3 => hD a' e' h1 h2 (by omega)⟩
        have bd0 := s_bd hw.1 k24 (hw.2.2 _ k24).2.1
        have q : i < C.1 (23 - n) := Nat.lt_of_not_le fun q2 => absurd q (nI_nlt q2 (by omega))
        omega
      · refine fin i J C2 (Nat.le_of_not_lt fun q => absurd (nI_lt q (by omega)) hge) hJ hCJ hP hD
    · intro J C2 hJ hCJ hP hD
      have bd := s_bd hP.1.1 k24 (hP.1.2.2 _ k24).2.1
      obtain ⟨s1, s2, s3, s4, s5, s6, s7⟩ := hCJ (23 - n) k24
      refine am_step _ _ _ (b_Ch_admit_61 ?_)
      rw [eu, s2]
      exact ⟨k24, fun hlt => absurd hlt (nI_nlt (by omega) (by omega)), fun _ => fin 24 J C2 (by omega) hJ hCJ hP hD⟩
  refine am_in _ _ _ (am_step _ _ _ (b_Ch_admit_0 ?_))
  rw [eu, r4, pk_mul, nI_add, n_un (show (23 - n) * 28 + C.2.2.1 (23 - n) < 2 ^ 32 by omega), show (23 - n) * 28 + C.2.2.1 (23 - n) = 28 * (23 - n) + C.2.2.1 (23 - n) by omega]
  refine ⟨fun _ => ⟨k24, fun _ => ⟨k24, by omega, am_obi (RR_633 rr _ (by omega)) (c_assign (by omega) (ch_ro (by omega) (by omega) (by omega)) ha hx fun J hJ hp => ⟨rfl, am_step _ _ _ (b_Ch_admit_40 ?_)⟩)⟩, fun c => absurd (nI_lt hc (by decide)) c⟩, fun c => absurd (nI_lt k24 (by decide)) c⟩
  rw [eu, am_sr_off _ _ (show ¬ (28 : Nat) = 632 by decide), hJ 28 (by omega), r2, hJ 632 (by omega), r4, nI_add]
  have hCJ := tg_C k24 hC hw hc hJ hp
  rw [hJ 632 (by omega)] at hCJ
  refine ⟨k24, k24, k24, key 0 (by decide) _ (t_g C (23 - n) x) (fun c hc2 => by rw [am_sr_off _ _ (by omega), hJ c (by omega)]) hCJ (tg_lP hn hw hg xm kp hc) fun a' e' h1 h2 h3 => ?_⟩
  rcases h3 with h3 | ⟨h3, h4⟩
  · exact absurd h3 (Nat.not_lt_zero _)
  · rw [tg_g, am_u1_off _ _ (by omega)]
    exact hg.1.2.2.1 _ _ ⟨e', h4, rfl⟩ ((hw.2.2 _ k24).2.1.1 a' h3)
theorem s_admit : ∀ n, n < 24 → ∀ d, 2 * n + 6 ≤ d → admOK Lg rr nn b n d := by
  intro n
  induction n with
  | zero => exact fun hn d hd => s_adm1 0 hn d hd fun m hm => absurd hm (by omega)
  | succ n ih =>
    intro hn d hd
    refine s_adm1 (n + 1) hn d hd fun m hm => ?_
    have : m = n := by omega
    rw [this]
    exact ih (by omega) (d - 2) (by omega)
end AD
