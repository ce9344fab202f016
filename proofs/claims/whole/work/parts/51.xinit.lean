theorem rows_now : ∀ m, m < 5 → sh_t (1339 + m) = 0 ∧ sh_n (1339 + m) = 24 := by decide +kernel
theorem rr_now : ∀ m, m < 5 → RR rr0 1338 m = some (1339 + m) := by decide +kernel
theorem rr_named : ∀ m, m < 5 → RR rr0 13 m = some (14 + m) := by decide +kernel
set_option maxRecDepth 20000 in
theorem xr_13 : (fun j => cond (Nat.ble (j + 1) (am_un (nI 5))) (some (13 + 1 + j)) none) = RR rr0 13 := rfl
theorem xi_sh {i : Nat} {F F' : Nat → Option Nat} {I J J' : Nat → Nat → Int32} {L L' : Nat → Nat → Int64} {Q Q' : Nat → Nat → Option Nat} (h : xi 1457 F I J L Q) (hP : cs_P (1457 + 1) 1457 7 F' (am_sr J 1457 fun _ => 0) (am_sr L 1457 fun _ => 0) (am_sr Q 1457 fun _ => none) J' L' Q') (hF : F' = RR rr0 1457) :
    xi 1465 (am_u1 F i (some 1457)) I (am_sr J' 1463 (am_fl (fun _ => am_k (-4)) (J' 1463) 4)) L' (am_sr Q' 12 (am_u1 (Q' 12) i (some 1457))) := by
  obtain ⟨p1, p2, p3, p4, p5, p6⟩ := hP
  have j1 : ∀ b, b < 1457 → am_sr J' 1463 (am_fl (fun _ => am_k (-4)) (J' 1463) 4) b = J b := fun b hb => by
    rw [am_sr_off _ _ (by omega), p1.1 b (by omega), am_sr_off _ _ (by omega)]
  refine xi_up (by omega) (by omega) h j1 (fun _ => (h.2.2.2.1 (by omega)).kept fun b _ b2 => j1 b (by omega)) (fun b b1 b2 b3 b4 => ?_) (fun q k hk => ?_) (fun b hb => ?_) (fun b b1 b2 => ?_) (fun b hb => ?_) (fun b b1 b2 => ?_) (fun b hb => ?_)
  · rw [am_sr_off _ _ b4]
    by_cases e : b = 1457
    · subst e
      rw [p1.1 1457 (by omega), am_sr_at]
    · exact p1.2 b (by omega) b3
  · rw [am_sr_at, am_fl_in _ _ hk]
  · rw [p2.1 b (by omega), am_sr_off _ _ (by omega)]
  · by_cases e : b = 1457
    · subst e
      rw [p2.1 1457 (by omega), am_sr_at]
    · exact p2.2 b (by omega) b2
  · rw [p3 b (by omega) (by omega), am_sr_off _ _ (by omega)]
  · by_cases e : b = 1457
    · subst e
      rw [p5, hF]
    · rw [p6 b (by omega) b2, RR_sh (by omega) (by omega) (by omega)]
  · rw [p4 b hb, am_sr_off _ _ (by omega), h.2.2.2.2.2.2.2.2.1 b (by omega)]
theorem xi_row {z i : Nat} {F : Nat → Option Nat} {I J : Nat → Nat → Int32} {L : Nat → Nat → Int64} {Q : Nat → Nat → Option Nat} (hz : z = 1467 ∨ z = 1468) (h : xi z F I J L Q) :
    xi (z + 1) (am_u1 F i (some z)) I (am_sr J z fun _ => 0) (am_sr L z fun _ => 0) (am_sr (am_sr Q z fun _ => none) 12 (am_u1 (am_sr Q z (fun _ => none) 12) i (some z))) := by
  have j1 : ∀ b, b < z → am_sr J z (fun _ => 0) b = J b := fun b hb => am_sr_off _ _ (by omega)
  refine xi_up (by omega) (by omega) h j1 (fun _ => (h.2.2.2.1 (by omega)).kept fun b _ b2 => j1 b (by omega)) (fun b b1 b2 b3 b4 => ?_) (fun q k hk => ?_) (fun b hb => ?_) (fun b b1 b2 => ?_) (fun b hb => ?_) (fun b b1 b2 => ?_) (fun b hb => ?_)
  · have : b = z := by omega
    subst this
    rw [am_sr_at]
  · rw [j1 1463 (by omega), h.2.2.2.2.2.1 (by omega) k hk]
  · rw [am_sr_off _ _ (by omega)]
  · have : b = z := by omega
    subst this
    rw [am_sr_at]
  · rw [am_sr_off _ _ (by omega)]
  · have : b = z := by omega
    subst this
    rw [am_sr_at, RR_sh (by omega) (by omega) (by omega)]
    rcases hz with rfl | rfl
    · exact (sr_int (b := 1467) (by decide) rfl).symm
    · exact (sr_int (b := 1468) (by decide) rfl).symm
  · rw [am_sr_off _ _ (by omega), h.2.2.2.2.2.2.2.2.1 b (by omega)]
/-- the object is made -/
def xf (I J : Nat → Nat → Int32) (L : Nat → Nat → Int64) (Q : Nat → Nat → Option Nat) : Prop :=
  (∀ b, b < 12 → J b = I b) ∧ J 12 = (fun _ => 0) ∧ nm_P J ∧ go_P J ∧ (∀ m, m < 5 → ∀ x, x < 24 → J (1339 + m) x = nI (g_nm m x)) ∧ J 1337 1 = nI (g_W 1) ∧ J 1337 2 = nI 1 ∧ (∀ b, 26 ≤ b → b < 1469 → (b < 1337 ∨ 1344 ≤ b) → ¬ b = 1463 → J b = fun _ => 0) ∧ (∀ k, k < 4 → J 1463 k = am_k (-4)) ∧ (∀ b, b < 1469 → L b = fun _ => 0) ∧ (∀ b, b < 1469 → Q b = RR rr0 b) ∧ ∀ b, 1469 ≤ b → Q b = fun _ => none
section X1
variable {d : Nat} {K : Option Value → am_M → Prop} {I : Nat → Nat → Int32} {Lg : Nat → Nat → Int64} {R : Nat → Nat → Option Nat} {ss n : Nat}
set_option maxRecDepth 20000 in
theorem s_X_init (hd : 5 ≤ d) (hS : ∀ j, j < 11 → I 1 j = nI (g_st j)) (hI : I 12 = fun _ => 0) (hL : ∀ b, Lg b = fun _ => 0) (hR : ∀ b, R b = fun _ => none) (h : ∀ J L Q, xf I J L Q → ∀ s, s = ss + 59075 → K none (J, L, Q, 1469, s, n)) : am_AC d k_X_init [.ref 12] (I, Lg, R, 13, ss, n) K := by
  obtain ⟨d, rfl, hd1⟩ := s_up hd
  have g13 : ((Nat.beq (sh_t 13) 3 && Nat.ble (13 + 1) 1469) || (Nat.beq (sh_t 13) 4 && Nat.ble (13 + 1) 1469) || (Nat.beq (sh_t 13) 5 && Nat.ble (13 + 1) 1469)) = true := rfl
  have t14 : ∀ m, m < 5 → am_ro 1469 (14 + m) 24 := fun m hm => ⟨(rows_named m hm).1, (rows_named m hm).2, by omega, by omega⟩
  have t38 : ∀ m, m < 5 → am_ro 1469 (1339 + m) 24 := fun m hm => ⟨(rows_now m hm).1, (rows_now m hm).2, by omega, by omega⟩
  have bq : ∀ m, m < 5 → am_un (nI m) < am_lS n 13 := fun m hm => by
    rw [n_un (by omega)]
    exact hm
  have bq2 : ∀ m, m < 5 → am_un (nI m) < am_lS n 1338 := fun m hm => by
    rw [n_un (by omega)]
    exact hm
  have k123 : ∀ m, m ≤ 5 → ∀ J0 L Q, xi 1469 (RR rr0 12) I J0 L Q → ∀ J, (∀ k, k < m → ∀ x, x < 24 → J (1339 + k) x = nI (g_nm k x)) → (∀ b, b < 1339 ∨ 1344 ≤ b → J b = J0 b) → ∀ s, s = ss + 59075 → am_St d k_X_init (I, Lg, R, 13, ss, n) K 123 [some (.ref 12), some (.ref 13), some (.int (nI m))] [] (J, L, Q, 1469, s, n) := by
    have fields : ∀ F J0 L Q, xi 1469 F I J0 L Q → F = RR rr0 12 → ∀ b, b < 1469 → Q b = RR rr0 b := by
      intro F J0 L Q hx hF b hb
      obtain ⟨h1, h2, h3, h4, h5, h6, h7, h8, h9, h10⟩ := hx
      by_cases e : b = 12
      · subst e
        rw [h10, hF]
      · exact h8 b hb e
    refine lp_up _ (fun m hm ih => ?_) ?_
    · intro J0 L Q hx J hJ1 hJ2 s hs
      have hQ := fields _ J0 L Q hx rfl
      refine am_step _ _ _ (d_X_init_123 ⟨fun _ => am_gi rfl (am_obi (b := 1336) (by rw [hQ 12 (by decide)]; rfl) (am_gi rfl (am_obi (b := 1337) (by rw [hQ 1336 (by decide)]; rfl) (am_gi rfl (am_obi (b := 1338) (by rw [hQ 1337 (by decide)]; rfl) (am_gi rfl ⟨bq2 m hm, ?_⟩)))))), fun q2 => absurd (nI_lt hm (by decide)) q2⟩)
      rw [n_un (by omega)]
      refine am_obi (b := 1339 + m) (by rw [hQ 1338 (by decide)]; exact rr_now m hm) (am_gi g13 ⟨hm, am_obi (b := 14 + m) ?_ (s_assign (by omega) (t38 m hm) (t14 m hm) ⟨rfl, am_step _ _ _ (d_X_init_146 ?_)⟩)⟩)
      · rw [hQ 13 (by decide)]
        exact rr_named m hm
      · rw [nI_add]
        refine ih J0 L Q hx _ (fun k hk x hx2 => ?_) (fun b hb => ?_) s hs
        · by_cases e : k = m
          · subst e
            rw [am_sr_at, am_fl_in _ _ hx2, hJ2 (14 + k) (by omega)]
            exact hx.2.2.1 k (by omega) x hx2
          · rw [am_sr_off _ _ (by omega), hJ1 k (by omega) x hx2]
        · rw [am_sr_off _ _ (by omega), hJ2 b hb]
    · intro J0 L Q hx J hJ1 hJ2 s hs
      have hQ := fields _ J0 L Q hx rfl
      have hg := hx.2.2.2.1 (by decide)
      refine am_step _ _ _ (d_X_init_123 ⟨fun q2 => absurd q2 (by decide), fun _ => am_gi rfl (am_obi (b := 1336) (by rw [hQ 12 (by decide)]; rfl) (am_gi rfl (am_obi (b := 1337) (by rw [hQ 1336 (by decide)]; rfl) (am_gi rfl (am_obi (b := 19) (by rw [hQ 12 (by decide)]; rfl) (am_gi rfl ?_))))))⟩)
      refine s_GwordOf (B := g_B) (by omega) (by decide) (by decide) (by rw [hQ 19 (by decide)]; rfl) (fun k hk => by rw [hJ2 24 (by decide), hg.2.2.2.2.1 k hk]) ⟨_, rfl, am_step _ _ _ (d_X_init_167 (am_gi rfl (am_gi rfl (am_obi (b := 1336) (by rw [hQ 12 (by decide)]; rfl) (am_gi rfl (am_obi (b := 1337) (by rw [hQ 1336 (by decide)]; rfl) (am_gi rfl ?_)))))))⟩
      rw [am_sr_at, am_sr_sr]
      obtain ⟨h1, h2, h3, h4, h5, h6, h7, h8, h9, h10⟩ := hx
      refine ⟨⟨rfl, hs⟩, h _ L Q ⟨fun b hb => ?_, ?_, fun m hm x hx => ?_, ?_, fun m hm x hx => ?_, ?_, ?_, fun b b1 b2 b3 b4 => ?_, fun k hk => ?_, h7, hQ, h9⟩ s hs⟩
      · rw [am_sr_off _ _ (by omega), hJ2 b (by omega), h1 b hb]
      · rw [am_sr_off _ _ (by decide), hJ2 12 (by decide), h2]
      · rw [am_sr_off _ _ (by omega), hJ2 _ (by omega), h3 m hm x hx]
      · exact hg.kept fun b b1 b2 => by rw [am_sr_off _ _ (by omega), hJ2 b (by omega)]
      · rw [am_sr_off _ _ (by omega), hJ1 m hm x hx]
      · rw [am_sr_at, am_u1_off _ _ (by decide), am_u1_at]
        rfl
      · rw [am_sr_at, am_u1_at]
      · rw [am_sr_off _ _ (by omega), hJ2 b (by omega), h5 b b1 b2 b4]
      · rw [am_sr_off _ _ (by decide), hJ2 1463 (by decide), h6 (by decide) k hk]
  have k121 : ∀ F J L Q, F = RR rr0 12 → xi 1469 F I J L Q → ∀ s, s = ss + 59075 → am_St d k_X_init (I, Lg, R, 13, ss, n) K 121 [some (.ref 12), some (.ref 13), none] [] (J, L, Q, 1469, s, n) := by
    intro F J L Q e hx s hs
    subst e
    exact am_step _ _ _ (d_X_init_121 (k123 0 (by decide) J L Q hx J (fun k hk => absurd hk (Nat.not_lt_zero _)) (fun _ _ => rfl) s hs))
  have k113 : ∀ F J L Q, am_u1 F 9 (some 1468) = RR rr0 12 → xi 1468 F I J L Q → ∀ s, s = ss + 59051 → am_St d k_X_init (I, Lg, R, 13, ss, n) K 113 [some (.ref 12), some (.ref 13), none] [] (J, L, Q, 1468, s, n) := by
    intro F J L Q e hx s hs
    refine am_step _ _ _ (d_X_init_113 (am_gi rfl ⟨⟨?_, ?_⟩, am_gi rfl (k121 _ _ _ _ e (xi_row (Or.inr rfl) hx) _ ?_)⟩))
    · show 1468 + 1 ≤ 13 + 1456
      omega
    · show s + 24 ≤ ss + 59075
      omega
    · show s + 24 = ss + 59075
      omega
  have k105 : ∀ F J L Q, am_u1 (am_u1 F 8 (some 1467)) 9 (some 1468) = RR rr0 12 → xi 1467 F I J L Q → ∀ s, s = ss + 59027 → am_St d k_X_init (I, Lg, R, 13, ss, n) K 105 [some (.ref 12), some (.ref 13), none] [] (J, L, Q, 1467, s, n) := by
    intro F J L Q e hx s hs
    refine am_step _ _ _ (d_X_init_105 (am_gi rfl ⟨⟨?_, ?_⟩, am_gi rfl (k113 _ _ _ _ e (xi_row (Or.inl rfl) hx) _ ?_)⟩))
    · show 1467 + 1 ≤ 13 + 1456
      omega
    · show s + 24 ≤ ss + 59075
      omega
    · show s + 24 = ss + 59051
      omega
  have k94 : ∀ F J L Q, am_u1 (am_u1 (am_u1 F 7 (some 1465)) 8 (some 1467)) 9 (some 1468) = RR rr0 12 → xi 1465 F I J L Q → ∀ s, s = ss + 58951 → am_St d k_X_init (I, Lg, R, 13, ss, n) K 94 [some (.ref 12), some (.ref 13), none] [] (J, L, Q, 1465, s, n) := by
    intro F J L Q e hx s hs
    have en : sh_n 1465 = 2 := rfl
    refine am_step _ _ _ (d_X_init_94 (am_gi rfl ⟨⟨?_, ?_⟩, ⟨?_, ?_⟩, s_Cy_init (by omega) ?_⟩))
    · show 1465 + 1 ≤ 13 + 1456
      omega
    · show s + 2 ≤ ss + 59075
      omega
    · show 1465 + 1 + 1 ≤ 13 + 1456
      omega
    · show s + 2 + 74 ≤ ss + 59075
      omega
    · intro J' L' Q' hP
      rw [am_sr_at] at hP
      have hx2 := xi_cs (i := 7) (by decide) hx hP (by decide) xr_1464 (by intro b b1 b2; omega)
      exact ⟨rfl, am_step _ _ _ (d_X_init_102 (am_gi rfl (k105 _ _ _ _ e hx2 _ (by show s + 2 + 74 = _; omega))))⟩
  have k83 : ∀ F J L Q, am_u1 (am_u1 (am_u1 (am_u1 F 6 (some 1457)) 7 (some 1465)) 8 (some 1467)) 9 (some 1468) = RR rr0 12 → xi 1457 F I J L Q → ∀ s, s = ss + 58808 → am_St d k_X_init (I, Lg, R, 13, ss, n) K 83 [some (.ref 12), some (.ref 13), none] [] (J, L, Q, 1457, s, n) := by
    intro F J L Q e hx s hs
    have en : sh_n 1457 = 3 := rfl
    refine am_step _ _ _ (d_X_init_83 (am_gi rfl ⟨⟨?_, ?_⟩, ⟨?_, ?_⟩, s_Sh_init (by omega) ?_⟩))
    · show 1457 + 1 ≤ 13 + 1456
      omega
    · show s + 3 ≤ ss + 59075
      omega
    · show 1457 + 1 + 7 ≤ 13 + 1456
      omega
    · show s + 3 + 140 ≤ ss + 59075
      omega
    · intro J' L' Q' hP s' hs'
      rw [am_sr_at] at hP
      rw [en] at hs'
      have hx2 := xi_sh (i := 6) hx hP xr_1456
      exact ⟨rfl, am_step _ _ _ (d_X_init_91 (am_gi rfl (k94 _ _ _ _ e hx2 _ (by omega))))⟩
  have k71 : ∀ F J L Q, am_u1 (am_u1 (am_u1 (am_u1 (am_u1 F 5 (some 1438)) 6 (some 1457)) 7 (some 1465)) 8 (some 1467)) 9 (some 1468) = RR rr0 12 → xi 1438 F I J L Q → ∀ s, s = ss + 58326 → am_St d k_X_init (I, Lg, R, 13, ss, n) K 71 [some (.ref 12), some (.ref 13), none] [] (J, L, Q, 1438, s, n) := by
    intro F J L Q e hx s hs
    have en : sh_n 1438 = 8 := rfl
    refine am_step _ _ _ (d_X_init_71 (am_gi rfl ⟨⟨?_, ?_⟩, ⟨?_, ?_⟩, s_Ta_init (by omega) ?_⟩))
    · show 1438 + 1 ≤ 13 + 1456
      omega
    · show s + 8 ≤ ss + 59075
      omega
    · show 1438 + 1 + 18 ≤ 13 + 1456
      omega
    · show s + 8 + 474 ≤ ss + 59075
      omega
    · intro J' L' Q' hP s' hs'
      rw [am_sr_at] at hP
      rw [en] at hs'
      have hx2 := xi_cs (i := 5) (by decide) hx hP (by decide) xr_1437 (by intro b b1 b2; omega)
      exact ⟨rfl, am_step _ _ _ (d_X_init_80 (am_gi rfl (k83 _ _ _ _ e hx2 _ (by omega))))⟩
  have k60 : ∀ F J L Q, am_u1 (am_u1 (am_u1 (am_u1 (am_u1 (am_u1 F 4 (some 1387)) 5 (some 1438)) 6 (some 1457)) 7 (some 1465)) 8 (some 1467)) 9 (some 1468) = RR rr0 12 → xi 1387 F I J L Q → ∀ s, s = ss + 57421 → am_St d k_X_init (I, Lg, R, 13, ss, n) K 60 [some (.ref 12), some (.ref 13), none] [] (J, L, Q, 1387, s, n) := by
    intro F J L Q e hx s hs
    have en : sh_n 1387 = 3 := rfl
    refine am_step _ _ _ (d_X_init_60 (am_gi rfl ⟨⟨?_, ?_⟩, ⟨?_, ?_⟩, s_Hi_init (v := 1387) (by omega) rfl (by decide) (by decide) ?_ ?_⟩))
    · show 1387 + 1 ≤ 13 + 1456
      omega
    · show s + 3 ≤ ss + 59075
      omega
    · show 1387 + 1 + 50 ≤ 13 + 1456
      omega
    · show s + 3 + 902 ≤ ss + 59075
      omega
    · unfold hs_sh st_sh
      decide +kernel
    · intro J' L' Q' hP
      have hx2 := xi_hs (i := 4) (Or.inr rfl) hx hP xr_1386 xl_1386 st_es_1386
      exact ⟨rfl, am_step _ _ _ (d_X_init_68 (am_gi rfl (k71 _ _ _ _ e hx2 _ (by show s + 3 + 902 = _; omega))))⟩
  have k49 : ∀ F J L Q, am_u1 (am_u1 (am_u1 (am_u1 (am_u1 (am_u1 (am_u1 F 3 (some 1336)) 4 (some 1387)) 5 (some 1438)) 6 (some 1457)) 7 (some 1465)) 8 (some 1467)) 9 (some 1468) = RR rr0 12 → xi 1336 F I J L Q → ∀ s, s = ss + 56516 → am_St d k_X_init (I, Lg, R, 13, ss, n) K 49 [some (.ref 12), some (.ref 13), none] [] (J, L, Q, 1336, s, n) := by
    intro F J L Q e hx s hs
    have en : sh_n 1336 = 3 := rfl
    refine am_step _ _ _ (d_X_init_49 (am_gi rfl ⟨⟨?_, ?_⟩, ⟨?_, ?_⟩, s_Hi_init (v := 1336) (by omega) rfl (by decide) (by decide) ?_ ?_⟩))
    · show 1336 + 1 ≤ 13 + 1456
      omega
    · show s + 3 ≤ ss + 59075
      omega
    · show 1336 + 1 + 50 ≤ 13 + 1456
      omega
    · show s + 3 + 902 ≤ ss + 59075
      omega
    · unfold hs_sh st_sh
      decide +kernel
    · intro J' L' Q' hP
      have hx2 := xi_hs (i := 3) (Or.inl rfl) hx hP xr_1335 xl_1335 st_es_1335
      exact ⟨rfl, am_step _ _ _ (d_X_init_57 (am_gi rfl (k60 _ _ _ _ e hx2 _ (by show s + 3 + 902 = _; omega))))⟩
  have k38 : ∀ F J L Q, am_u1 (am_u1 (am_u1 (am_u1 (am_u1 (am_u1 (am_u1 (am_u1 F 2 (some 1333)) 3 (some 1336)) 4 (some 1387)) 5 (some 1438)) 6 (some 1457)) 7 (some 1465)) 8 (some 1467)) 9 (some 1468) = RR rr0 12 → xi 1333 F I J L Q → ∀ s, s = ss + 48320 → am_St d k_X_init (I, Lg, R, 13, ss, n) K 38 [some (.ref 12), some (.ref 13), none] [] (J, L, Q, 1333, s, n) := by
    intro F J L Q e hx s hs
    have en : sh_n 1333 = 4 := rfl
    refine am_step _ _ _ (d_X_init_38 (am_gi rfl ⟨⟨?_, ?_⟩, ⟨?_, ?_⟩, s_Or_init (by omega) ?_⟩))
    · show 1333 + 1 ≤ 13 + 1456
      omega
    · show s + 4 ≤ ss + 59075
      omega
    · show 1333 + 1 + 2 ≤ 13 + 1456
      omega
    · show s + 4 + 8192 ≤ ss + 59075
      omega
    · intro J' L' Q' hP s' hs'
      rw [am_sr_at] at hP
      rw [en] at hs'
      have hx2 := xi_cs (i := 2) (by decide) hx hP (by decide) xr_1332 (by intro b b1 b2; omega)
      exact ⟨rfl, am_step _ _ _ (d_X_init_46 (am_gi rfl (k49 _ _ _ _ e hx2 _ (by omega))))⟩
  have k27 : ∀ F J L Q, am_u1 (am_u1 (am_u1 (am_u1 (am_u1 (am_u1 (am_u1 (am_u1 (am_u1 F 1 (some 26)) 2 (some 1333)) 3 (some 1336)) 4 (some 1387)) 5 (some 1438)) 6 (some 1457)) 7 (some 1465)) 8 (some 1467)) 9 (some 1468) = RR rr0 12 → xi 26 F I J L Q → ∀ s, s = ss + 15766 → am_St d k_X_init (I, Lg, R, 13, ss, n) K 27 [some (.ref 12), some (.ref 13), none] [] (J, L, Q, 26, s, n) := by
    intro F J L Q e hx s hs
    have en : sh_n 26 = 10 := rfl
    refine am_step _ _ _ (d_X_init_27 (am_gi rfl ⟨⟨?_, ?_⟩, ⟨?_, ?_⟩, s_Ch_init (by omega) ?_⟩))
    · show 26 + 1 ≤ 13 + 1456
      omega
    · show s + 10 ≤ ss + 59075
      omega
    · show 26 + 1 + 1306 ≤ 13 + 1456
      omega
    · show s + 10 + 32544 ≤ ss + 59075
      omega
    · intro J' L' Q' hP s' hs'
      rw [am_sr_at] at hP
      rw [en] at hs'
      have hx2 := xi_cs (i := 1) (by decide) hx hP (by decide) xr_26 (by intro b b1 b2; omega)
      exact ⟨rfl, am_step _ _ _ (d_X_init_35 (am_gi rfl (k38 _ _ _ _ e hx2 _ (by omega))))⟩
  have k16 : ∀ F J L Q, am_u1 (am_u1 (am_u1 (am_u1 (am_u1 (am_u1 (am_u1 (am_u1 (am_u1 (am_u1 F 0 (some 19)) 1 (some 26)) 2 (some 1333)) 3 (some 1336)) 4 (some 1387)) 5 (some 1438)) 6 (some 1457)) 7 (some 1465)) 8 (some 1467)) 9 (some 1468) = RR rr0 12 → xi 19 F I J L Q → ∀ s, s = ss + 125 → am_St d k_X_init (I, Lg, R, 13, ss, n) K 16 [some (.ref 12), some (.ref 13), none] [] (J, L, Q, 19, s, n) := by
    intro F J L Q e hx s hs
    have en : sh_n 19 = 6 := rfl
    refine am_step _ _ _ (d_X_init_16 (am_gi rfl ⟨⟨?_, ?_⟩, ⟨?_, ?_⟩, s_Go_init (by omega) ?_ ?_⟩))
    · show 19 + 1 ≤ 13 + 1456
      omega
    · show s + 6 ≤ ss + 59075
      omega
    · show 19 + 1 + 6 ≤ 13 + 1456
      omega
    · show s + 6 + 15635 ≤ ss + 59075
      omega
    · intro j hj
      rw [am_sr_off _ _ (by decide), hx.1 1 (by decide), hS j hj]
    · intro J0 J' L' Q' hP hJ hg s' hs'
      rw [am_sr_at] at hP
      rw [en] at hs'
      obtain ⟨p1, p2, p3, p4, p5, p6⟩ := hP
      have j1 : ∀ b, b < 19 → J' b = J b := fun b hb => by
        rw [hJ b (by omega), p1.1 b (by omega), am_sr_off _ _ (by omega)]
      have hx2 : xi 26 (am_u1 F 0 (some 19)) I J' L' (am_sr Q' 12 (am_u1 (Q' 12) 0 (some 19))) := by
        refine xi_up (by omega) (by omega) hx j1 (fun _ => hg) (fun b b1 b2 b3 b4 => by omega) (fun q k hk => by omega) (fun b hb => ?_) (fun b b1 b2 => ?_) (fun b hb => ?_) (fun b b1 b2 => ?_) (fun b hb => ?_)
        · rw [p2.1 b (by omega), am_sr_off _ _ (by omega)]
        · by_cases e2 : b = 19
          · subst e2
            rw [p2.1 19 (by omega), am_sr_at]
          · exact p2.2 b (by omega) b2
        · rw [p3 b (by omega) (by omega), am_sr_off _ _ (by omega)]
        · by_cases e2 : b = 19
          · subst e2
            rw [p5]
            exact xr_19
          · rw [p6 b (by omega) b2, RR_sh (by omega) (by omega) (by omega)]
        · rw [p4 b hb, am_sr_off _ _ (by omega), hx.2.2.2.2.2.2.2.2.1 b (by omega)]
      exact ⟨rfl, am_step _ _ _ (d_X_init_24 (am_gi rfl (k27 _ _ _ _ e hx2 _ (by omega))))⟩
  refine am_in _ _ _ (am_step _ _ _ (d_X_init_0 (am_gi rfl ⟨rows_named, ⟨?_, ?_⟩, ?_⟩)))
  · show 13 + 1 + 5 ≤ 13 + 1456
    omega
  · show ss + 5 + 5 * 24 ≤ ss + 59075
    omega
  · refine s_fillNamed (by omega) (by decide) (fun m hm => ?_) (fun J hJ hJ2 => ⟨rfl, k16 (R 12) J _ _ ?_ ⟨fun b hb => ?_, ?_, hJ, fun q => by omega, fun b b1 b2 => by omega, fun q => by omega, fun b hb => ?_, fun b b1 b2 => ?_, fun b hb => ?_, ?_⟩ _ ?_⟩)
    · rw [am_sr_at]
      exact rr_named m hm
    · rw [hR 12]
      exact xr_12
    · rw [hJ2 b (by omega), am_zrO _ _ (by omega), am_sr_off _ _ (by omega), ]
    · rw [hJ2 12 (by omega), am_zrO _ _ (by omega), am_sr_off _ _ (by omega), hI]
    · by_cases e1 : b < 13
      · rw [am_zrO _ _ (by omega), am_sr_off _ _ (by omega), hL]
      · by_cases e2 : b = 13
        · subst e2
          rw [am_zrO _ _ (by omega), am_sr_at]
        · exact am_zrI _ _ (by omega) (show b < 13 + 1 + 5 by omega)
    · by_cases e1 : b < 13
      · rw [am_sr_off _ _ (by omega), am_zrO _ _ (by omega), hR, RR_sh (by omega) (by omega) (by omega), sr_0 (Nat.zero_le _) (by omega)]
      · by_cases e2 : b = 13
        · subst e2
          rw [am_sr_at]
          exact xr_13
        · rw [am_sr_off _ _ (by omega), RR_sh (by omega) (by omega) (by omega), sr_14 (by omega) (by omega)]
          exact am_zrI _ _ (by omega) (show b < 13 + 1 + 5 by omega)
    · rw [am_sr_off _ _ (by omega)]
      exact (am_zrO _ _ (Or.inr (show 13 + 1 + 5 ≤ b by omega))).trans (hR b)
    · rw [am_sr_off _ _ (by decide), am_zrO _ _ (by omega)]
    · show ss + 5 + 5 * 24 = ss + 125
      omega
end X1
