/-! OPERATION: read -/
def x_fx (tl : Nat) (t : Nat → Nat) (r : x_R) : Prop := r.2 = none → g_sk tl t r.1 = r.1
section FX
variable {tl : Nat} {t : Nat → Nat} {cur : Nat → Nat → Nat}
theorem fx_no {p : Nat} (h : g_sk tl t p = p) : x_fx tl t (p, none) := fun _ => h
theorem fx_some {p : Nat} {f : Nat → Nat} : x_fx tl t (p, some f) := fun h => by cases h
theorem cy_fx (t100 : tl ≤ 100) : ∀ n seen first last f p, p ≤ tl → 200 ≤ p + 2 * n → x_fx tl t (x_cy tl t n seen first last f p)
  | 0, _, _, _, _, p, hp, h => absurd h (by omega)
  | n + 1, seen, first, last, f, p, hp, h => by
    have g := sk_ge (tl := tl) (t := t) p
    unfold x_cy
    by_cases c1 : x_L tl t (g_sk tl t p) = 41
    · rw [if_pos c1]
      exact fx_some
    · rw [if_neg c1]
      by_cases c2 : x_L tl t (g_sk tl t p) = 44
      · rw [if_pos c2]
        have q := L_lt (tl := tl) (t := t) (p := g_sk tl t p) (by rw [c2]; decide)
        have g2 := sk_ge (tl := tl) (t := t) (g_sk tl t p + 1)
        have l2 := sk_le (t := t) (g_sk tl t p + 1) q
        by_cases c3 : n_ok tl t (g_sk tl t (g_sk tl t p + 1)) 23 ∧ ¬ seen.testBit (g_nv tl t (g_sk tl t (g_sk tl t p + 1))) = true
        · rw [dec_t c3]
          have e := num_end c3.1
          exact cy_fx t100 n _ _ _ _ _ (rn_le (by decide) _ l2) (by omega)
        · rw [dec_f c3]
          exact fx_no (sk_sk _)
      · rw [if_neg c2]
        exact fx_no (sk_sk _)
theorem ring_fx (t100 : tl ≤ 100) {p : Nat} (hp : p ≤ tl) : x_fx tl t (x_ring tl t p) := by
  have l := sk_le (t := t) p hp
  unfold x_ring
  by_cases c : n_ok tl t (g_sk tl t p) 23
  · rw [dec_t c]
    exact cy_fx t100 _ _ _ _ _ _ (rn_le (by decide) _ l) (by omega)
  · rw [dec_f c]
    exact fx_no (sk_sk _)
theorem name_fx {p : Nat} (h : g_sk tl t p = p) : x_fx tl t (x_nm tl t cur p) := by
  by_cases c : ∃ k, k < 10 ∧ nm_is tl t k p (gt_rn tl t 97 122 p)
  · obtain ⟨k, k1, k2⟩ := c
    rw [nm_yes k1 k2]
    exact fx_some
  · rw [nm_no fun k h1 h2 => c ⟨k, h1, h2⟩]
    exact fx_no h
theorem of1_fx {f : Nat → Nat} {p : Nat} : x_fx tl t (x_of1 tl t f p) := by
  unfold x_of1
  by_cases c1 : x_L tl t (g_sk tl t p) = 94
  · rw [if_pos c1]
    by_cases c2 : x_L tl t (g_sk tl t (g_sk tl t p + 1)) = 45
    · rw [if_pos c2]
      by_cases c3 : n_ok tl t (g_sk tl t (g_sk tl t (g_sk tl t p + 1) + 1)) 99
      · rw [dec_t c3]
        exact fx_some
      · rw [dec_f c3]
        exact fx_no (sk_sk _)
    · rw [if_neg c2]
      by_cases c3 : n_ok tl t (g_sk tl t (g_sk tl t p + 1)) 99
      · rw [dec_t c3]
        exact fx_some
      · rw [dec_f c3]
        exact fx_no (sk_sk _)
  · rw [if_neg c1]
    exact fx_some
theorem of_fx {r : x_R} (h : x_fx tl t r) : x_fx tl t (x_of tl t r) := by
  cases r with
  | mk q o =>
    cases o with
    | none => exact h
    | some f => exact of1_fx
theorem pl_fx (t100 : tl ≤ 100) {n p : Nat} {B : Nat → x_R} (hB : ¬ n = 0 → ∀ q, q ≤ tl → x_fx tl t (B q)) : x_fx tl t (x_pl tl t cur n B p) := by
  unfold x_pl
  by_cases c1 : x_L tl t (g_sk tl t p) = 91
  · rw [if_pos c1]
    have q := L_lt (tl := tl) (t := t) (p := g_sk tl t p) (by rw [c1]; decide)
    by_cases c2 : n = 0
    · rw [if_pos c2]
      exact fx_no (sk_sk _)
    · rw [if_neg c2]
      have := hB c2 (g_sk tl t p + 1) q
      generalize hr : B (g_sk tl t p + 1) = r at this
      cases r with
      | mk x o =>
        cases o with
        | none => exact this
        | some f =>
          show x_fx tl t (if x_L tl t (g_sk tl t x) = 93 then _ else _)
          by_cases c3 : x_L tl t (g_sk tl t x) = 93
          · rw [if_pos c3]
            exact fx_some
          · rw [if_neg c3]
            exact fx_no (sk_sk _)
  · rw [if_neg c1]
    by_cases c2 : x_L tl t (g_sk tl t p) = 40
    · rw [if_pos c2]
      have q := L_lt (tl := tl) (t := t) (p := g_sk tl t p) (by rw [c2]; decide)
      exact ring_fx t100 q
    · rw [if_neg c2]
      exact name_fx (sk_sk _)
theorem pr_fx (t100 : tl ≤ 100) {F : Nat → x_R} (hF : ∀ q, q ≤ tl → x_ok tl q (F q)) (hX : ∀ q, q ≤ tl → x_fx tl t (F q)) : ∀ m acc p, p ≤ tl → 200 ≤ p + 2 * m → x_fx tl t (x_pr tl t F m acc p)
  | 0, _, p, hp, h => absurd h (by omega)
  | m + 1, acc, p, hp, h => by
    have := hF p hp
    have hx := hX p hp
    unfold x_pr
    generalize hr : F p = r at this hx
    cases r with
    | mk x o =>
      obtain ⟨a, b, c⟩ := this
      have b : x ≤ tl := b
      cases o with
      | none => exact hx
      | some f =>
        have c : pe_m f ∧ p < x := c
        have g2 := sk_ge (tl := tl) (t := t) x
        show x_fx tl t (if x_L tl t (g_sk tl t x) = 42 then _ else _)
        by_cases c3 : x_L tl t (g_sk tl t x) = 42
        · rw [if_pos c3]
          have q3 := L_lt (tl := tl) (t := t) (p := g_sk tl t x) (by rw [c3]; decide)
          exact pr_fx t100 hF hX m _ _ q3 (by omega)
        · rw [if_neg c3]
          exact fx_some
theorem P_fx (t100 : tl ≤ 100) (hc : ∀ k, k < 10 → pe_m (cur k)) : ∀ n p, p ≤ tl → x_fx tl t (x_P tl t cur n p)
  | 0, p, hp => pr_fx t100 (fun q hq => of_ok (pl_ok hc (fun _ h => x_ok_no (Nat.le_refl _) h) hq)) (fun q hq => of_fx (pl_fx t100 fun h => absurd rfl h)) 100 pe_1 p hp (by omega)
  | n + 1, p, hp => pr_fx t100 (fun q hq => of_ok (pl_ok hc (fun x hx => P_ok hc n x hx) hq)) (fun q hq => of_fx (pl_fx t100 fun _ x hx => P_fx t100 hc n x hx)) 100 pe_1 p hp (by omega)
theorem T_no (t100 : tl ≤ 100) (hc : ∀ k, k < 10 → pe_m (cur k)) {r : Nat} (h : x_T tl t cur = (r, none)) : g_sk tl t r = r ∧ r ≤ tl := by
  have a := P_fx (tl := tl) (t := t) t100 hc 6 0 (Nat.zero_le _)
  have b := P_ok (tl := tl) (t := t) hc 6 0 (Nat.zero_le _)
  unfold x_T at h
  generalize x_P tl t cur 6 0 = z at a b h
  cases z with
  | mk x o =>
    cases o with
    | none =>
      have e : x = r := congrArg Prod.fst h
      rw [← e]
      exact ⟨a rfl, b.2.1⟩
    | some f =>
      have h : (if g_sk tl t x = tl then (tl, some f) else (g_sk tl t x, none)) = (r, none) := h
      by_cases c : g_sk tl t x = tl
      · rw [if_pos c] at h
        have := congrArg Prod.snd h
        cases this
      · rw [if_neg c] at h
        have e : g_sk tl t x = r := congrArg Prod.fst h
        rw [← e]
        exact ⟨sk_sk _, sk_le _ b.2.1⟩
theorem T_yes (hc : ∀ k, k < 10 → pe_m (cur k)) {r : Nat} {f : Nat → Nat} (h : x_T tl t cur = (r, some f)) : pe_m f ∧ r = tl := by
  have b := P_ok (tl := tl) (t := t) hc 6 0 (Nat.zero_le _)
  unfold x_T at h
  generalize x_P tl t cur 6 0 = z at b h
  cases z with
  | mk x o =>
    cases o with
    | none =>
      have := congrArg Prod.snd h
      cases this
    | some g =>
      have h : (if g_sk tl t x = tl then (tl, some g) else (g_sk tl t x, none)) = (r, some f) := h
      by_cases c : g_sk tl t x = tl
      · rw [if_pos c] at h
        have e1 : tl = r := congrArg Prod.fst h
        have e2 : some g = some f := congrArg Prod.snd h
        have e3 := Option.some.inj e2
        rw [← e3]
        exact ⟨b.2.2.1, e1.symm⟩
      · rw [if_neg c] at h
        have := congrArg Prod.snd h
        cases this
end FX
section OD
variable {d : Nat} {K : Option Value → am_M → Prop} {I : Nat → Nat → Int32} {Lg : Nat → Nat → Int64} {rr : Nat → Nat → Option Nat} {n : Nat}
theorem s_differences {a b : Nat} {f g : Nat → Nat} (hd : 1 ≤ d) (ha : am_ro 1497 a 24) (hb : am_ro 1497 b 24) (hf : ip I a f) (hg : ip I b g) (fl : ∀ p, p < 24 → f p < 24) (gl : ∀ p, p < 24 → g p < 24) (h : K (some (.int (nI (g_cnt (fun p => decide (¬ f p = g p)) 24)))) (am_st I Lg rr n)) : am_AC d k_Mo_differences [.ref a, .ref b] (am_st I Lg rr n) K := by
  obtain ⟨d, rfl, hd1⟩ := s_up hd
  have key : ∀ p, p ≤ 24 → am_St d k_Mo_differences (am_st I Lg rr n) K 4 [some (.ref a), some (.ref b), some (.int (nI (g_cnt (fun p => decide (¬ f p = g p)) p))), some (.int (nI p))] [] (am_st I Lg rr n) := by
    refine lp_up _ (fun p hp ih => ?_) ?_
    · have f1 := fl p hp
      have g1 := gl p hp
      rw [cnt_s] at ih
      refine am_step _ _ _ (b_Mo_differences_4 (am_gi ha.g1 ⟨fun _ => am_gi hb.g1 ⟨fun _ => am_gi (oS_ro ha) ?_, fun q => ?_⟩, fun q => ?_⟩))
      · rw [n_un (show p < 2 ^ 32 by omega), ha.n, hf p hp, nI_add, nI_add]
        refine ⟨hp, am_gi (oS_ro hb) ?_⟩
        rw [hb.n, hg p hp]
        refine ⟨hp, fun q => ?_, fun q => ?_⟩
        · rw [nI_eq (by omega) (by omega)] at q
          rw [if_neg (by rw [decide_eq_false (fun q2 => q2 q)]; decide)] at ih
          exact ih
        · have hne : ¬ f p = g p := fun q2 => q (by rw [q2])
          rw [if_pos (decide_eq_true hne)] at ih
          exact ih
      · rw [hb.n] at q
        exact absurd (nI_lt hp (by decide)) q
      · rw [ha.n] at q
        exact absurd (nI_lt hp (by decide)) q
    · refine am_step _ _ _ (b_Mo_differences_4 (am_gi ha.g1 ⟨fun q => ?_, fun _ => h⟩))
      rw [ha.n] at q
      exact absurd q (by decide)
  exact am_in _ _ _ (am_step _ _ _ (b_Mo_differences_0 (key 0 (by decide))))
theorem op_read (a0 : Int32) : lw_Op (vV g_G) k_X_read k_M_read [.int a0] := by
  intro I Lg rr n hV
  have hT := hV.1
  obtain ⟨now, us, ks, ok, hks, hc, hm, h28⟩ := hV.2.1
  have hu := hc.2.2.1
  obtain ⟨tl, t, t1, t2, t3, t4⟩ := hV.2.2.2.1
  have z10 : ¬ nI 1 = 0 := by decide
  have nmp : ∀ m, m < 5 → a_pm (g_nm m) := fun m hm5 => ⟨nm_b24 m hm5, (show ∀ m, m < 5 → ∀ p q, p < 24 → q < 24 → g_nm m p = g_nm m q → p = q from fun m hm p q hp hq => (show ∀ m, m < 5 → ∀ p, p < 24 → ∀ q, q < 24 → g_nm m p = g_nm m q → p = q by decide +kernel) m hm p hp q hq) m hm5⟩
  obtain ⟨cur, cur1, cur2⟩ : ∃ cur : Nat → Nat → Nat, (∀ k, k < 5 → cur k = pe_n (now.1 k)) ∧ ∀ k, k < 5 → cur (5 + k) = pe_n (g_nm k) := ⟨fun k => if k < 5 then pe_n (now.1 k) else pe_n (g_nm (k - 5)), fun k hk => if_pos hk, fun k hk => by
    show (if 5 + k < 5 then _ else pe_n (g_nm (5 + k - 5))) = _
    rw [if_neg (by omega), show 5 + k - 5 = k by omega]⟩
  have curm : ∀ k, k < 10 → pe_m (cur k) := fun k hk => by
    by_cases k5 : k < 5
    · rw [cur1 k k5]
      exact pe_n_m (ok.1 k k5)
    · have := cur2 (k - 5) (by omega)
      rw [show 5 + (k - 5) = k by omega] at this
      rw [this]
      exact pe_n_m (nmp _ (by omega))
  have tA0 : tA cur I tl t := ⟨⟨t1, t2, fun k hk => ⟨(t4 k hk).1, (t4 k hk).2.1, (t4 k hk).2.2.1⟩⟩, fun k hk => ⟨fun p hp => by rw [cur1 k hk, pe_at hp]; exact now_x hc.1 hk p hp, fun p hp => by rw [cur2 k hk, pe_at hp]; exact hT.1 k hk p hp⟩⟩
  have uA0 : ∀ J, J 1469 9 = I 1469 9 → J 1476 = I 1476 → J 1470 = I 1470 → uA cur J tl t := fun J e1 e2 e3 => ⟨⟨t1, by rw [e1]; exact t3, fun k hk => ⟨(t4 k hk).1, (t4 k hk).2.1, by rw [e2]; exact (t4 k hk).2.2.2⟩⟩, fun k hk p hp => by rw [e3, cur1 k hk, pe_at hp]; exact now_m hm.1 hk p hp, fun k hk p hp => by rw [cur2 k hk, pe_at hp]⟩
  rcases rng_cases a0 (N := 4) (by decide) (by decide) with ⟨m, m1, rfl, m3, m4, m5⟩ | ⟨m3, m4, m5⟩
  · refine am_in _ _ _ (am_step _ _ _ (b_X_read_0 (s_isOutside (by decide) ⟨_, rfl, am_step _ _ _ (b_X_read_5 ?_)⟩)))
    rw [m3]
    refine ⟨fun _ => s_evaluate (tl := tl) (t := t) (cur := cur) (by decide) curm tA0 (fun r f hr I' hB hf => ⟨_, rfl, am_step _ _ _ (b_X_read_27 (am_in _ _ _ (am_step _ _ _ (b_Ta_clear_0 ⟨rfl, am_step _ _ _ (b_X_read_35 ⟨fun q => absurd q z10, fun _ => ?_⟩)⟩))))⟩) fun r hr I' hB => ⟨_, rfl, am_step _ _ _ (b_X_read_27 (am_in _ _ _ (am_step _ _ _ (b_Ta_clear_0 ⟨rfl, am_step _ _ _ (b_X_read_35 ⟨fun _ => am_in _ _ _ (am_step _ _ _ (b_Ta_faultPosition_0 ⟨_, rfl, am_step _ _ _ (b_X_read_48 ?_)⟩)), fun q => absurd rfl q⟩)⟩))))⟩, fun q => absurd rfl q⟩
    · -- a good text
      obtain ⟨fm, rtl⟩ := T_yes curm hr
      generalize hJ1 : am_sr (ps I' r) 1438 (am_u1 (ps I' r 1438) 6 (nI 0)) = J1
      have j1 : ∀ c, ¬ c = 1438 → J1 c = I' c := fun c h => by rw [← hJ1, am_sr_off _ _ h, ps_off _ _ h]
      have j16 : J1 1438 6 = nI 0 := by rw [← hJ1, am_sr_at, am_u1_at]
      have rr1 : ∀ b, ¬ b = 1438 → am_sr rr 1438 (am_u1 (rr 1438) 5 (some 1338)) b = rr b := fun b h => am_sr_off _ _ h
      have jI : ∀ c, ¬ c = 1438 → ¬ (1441 ≤ c ∧ c ≤ 1456) → J1 c = I c := fun c h1 h2 => by rw [j1 c h1, hB c h2]
      have hcJ : c_H J1 (am_sr rr 1438 (am_u1 (rr 1438) 5 (some 1338))) 1336 1337 1344 1345 now us ks := hc.fr (fun a q => jI a (by omega) (by omega)) (by rw [jI 1336 (by decide) (by decide)]) (rr1 1344 (by decide))
      refine s_keep (by decide) hcJ (fun J rr' hJ k1 k2 k3 => ⟨rfl, am_step _ _ _ (b_X_read_57 ?_)⟩)
      have jk : ∀ c, ¬ (1336 ≤ c ∧ c ≤ 1386) → J c = J1 c := fun c h => by
        by_cases q : c < 1345
        · exact k1 c q (by omega)
        · exact k2 c (by omega)
      have r0 : RR rr' 1440 (am_un (nI 0)) = some 1441 := RR_1439 rr' 0 (by decide)
      have rt : am_ro 1497 1441 24 := ta_ro (by decide) (by decide)
      have fJ : ip J 1441 f := fun x hx => by rw [jk 1441 (by decide), j1 1441 (by decide)]; exact hf x hx
      have mJ : ip J (1339 + m) (now.1 m) := fun x hx => by
        have := hJ.1.1 m (by omega) x hx
        rw [show 1337 + 2 + m = 1339 + m by omega] at this
        exact this
      rw [n_un (show m < 2 ^ 32 by omega)]
      refine ⟨by omega, am_obi (RR_now rr' m (by omega)) (am_in _ _ _ (am_step _ _ _ (b_Ta_value_0 ⟨by decide, am_obi r0 ⟨_, rfl, am_step _ _ _ (b_X_read_78 (s_differences (by decide) (ro_now (by omega)) rt mJ fJ (ok.1 m (by omega)).1 fm.1.1 ⟨_, rfl, am_step _ _ _ (b_X_read_81 (am_in _ _ _ (am_step _ _ _ (b_Ta_value_0 ⟨by decide, am_obi r0 ⟨_, rfl, am_step _ _ _ (b_X_read_91 (c_assign (by decide) (ro_now (by omega)) rt fJ fun J2 hJ2 hp2 => ⟨rfl, am_step _ _ _ (b_X_read_94 ?_)⟩))⟩⟩))))⟩))⟩⟩)))⟩
      have e2 : ∀ c, ¬ (1336 ≤ c ∧ c ≤ 1386) → ¬ c = 1438 → ¬ (1441 ≤ c ∧ c ≤ 1456) → J2 c = I c := fun c h1 h2 h3 => by rw [hJ2 c (by omega), jk c h1, jI c h2 h3]
      refine ⟨_, rfl, J2, Lg, rr', rfl, e2 0 (by decide) (by decide) (by decide), ?_⟩
      refine am_in _ _ _ (am_step _ _ _ (b_M_read_0 (s_in (by decide) ⟨_, rfl, am_step _ _ _ (b_M_read_9 ?_)⟩)))
      rw [m5]
      refine ⟨fun q => absurd q z10, fun _ => s_isText (tl := tl) (t := t) (cur := cur) (by decide) curm (uA0 J2 (by rw [e2 1469 (by decide) (by decide) (by decide)]) (e2 1476 (by decide) (by decide) (by decide)) (e2 1470 (by decide) (by decide) (by decide))) (fun r2 f2 hr2 L hU hdone => ⟨_, rfl, am_step _ _ _ (b_M_read_18 ?_)⟩) fun r2 hr2 L hU => by rw [hr] at hr2; cases congrArg Prod.snd hr2⟩
      have ef : f2 = f := by
        rw [hr] at hr2
        exact (Option.some.inj (congrArg Prod.snd hr2)).symm
      have er2 : r2 = r := by
        rw [hr] at hr2
        exact (congrArg Prod.fst hr2).symm
      subst ef
      subst er2
      have uL := (uA0 J2 (by rw [e2 1469 (by decide) (by decide) (by decide)]) (e2 1476 (by decide) (by decide) (by decide)) (e2 1470 (by decide) (by decide) (by decide))).fr hU
      refine s_here (by decide) uL.1 (by omega) ⟨_, rfl, am_step _ _ _ (b_M_read_23 ?_)⟩
      have hx0 : x_L tl t (g_sk tl t r2) = 0 := by
        have := sk_ge (tl := tl) (t := t) r2
        unfold x_L
        rw [if_neg (by omega)]
      rw [hx0]
      refine ⟨fun _ => ⟨fun q => absurd q z10, fun _ => ?_⟩, fun q => absurd rfl q⟩
      generalize hL1 : am_sr (pm L (g_sk tl t r2)) 1469 (am_u1 (pm L (g_sk tl t r2) 1469) 9 (nI 0)) = L1
      have l1 : ∀ c, ¬ c = 1469 → L1 c = L c := fun c h => by rw [← hL1, am_sr_off _ _ h, pm_off _ _ h]
      have l19 : L1 1469 9 = nI 0 := by rw [← hL1, am_sr_at, am_u1_at]
      have l1j : ∀ j, ¬ j = 9 → ¬ j = 10 → L1 1469 j = L 1469 j := fun j h1 h2 => by rw [← hL1, am_sr_at, am_u1_off _ _ h1, pm_j _ _ h2]
      have lI : ∀ c, ¬ c = 1477 → ¬ c = 1478 → ¬ c = 1479 → ¬ c = 1469 → L1 c = J2 c := fun c h1 h2 h3 h4 => by rw [l1 c h4, hU.1 c h1 h2 h3 h4]
      have lIj : ∀ j, ¬ j = 9 → ¬ j = 10 → ¬ j = 14 → L1 1469 j = I 1469 j := fun j h1 h2 h3 => by rw [l1j j h1 h2, hU.2 j h2 h3, e2 1469 (by decide) (by decide) (by decide)]
      have hm1 : m_H (L1 1470) (L1 1489) now us ks := by
        rw [lI 1470 (by decide) (by decide) (by decide) (by decide), lI 1489 (by decide) (by decide) (by decide) (by decide), e2 1470 (by decide) (by decide) (by decide), e2 1489 (by decide) (by decide) (by decide)]
        exact hm
      refine s_notes (by decide) hu hm1 (by rw [lIj 28 (by decide) (by decide) (by decide), h28]) (fun L2 g1 g2 g3 g4 => ⟨rfl, am_step _ _ _ (b_M_read_56 ?_)⟩)
      have d2 : ∀ j, j < 24 → L2 1478 j = nI (f2 j) := fun j hj => by rw [g4 1478 (by decide) (by decide), l1 1478 (by decide)]; exact hdone j hj
      have key : ∀ p, p ≤ 24 → ∀ L3, nb1 L2 L3 1470 → (∀ i, i < 24 * m ∨ 24 * m + 24 ≤ i → L3 1470 i = L2 1470 i) → (∀ j, j < 24 → L3 1470 (24 * m + j) = nI (if j < p then f2 j else now.1 m j)) → am_St 99 k_M_read (am_st J2 Lg rr' n) (am_qi fun y M2 => ∃ I2 Lg2 rr2, M2 = am_st I2 Lg2 rr2 n ∧ y = nI (g_cnt (fun p => decide (¬ now.1 m p = f2 p)) 24) ∧ vV g_G I2 Lg2 rr2 n) 62 [some (.ref 1469), some (.int (nI m)), some (.int (nI 1)), some (.int (pm L (g_sk tl t r2) 1469 9)), some (.int (nI (g_cnt (fun p => decide (¬ now.1 m p = f2 p)) p))), some (.int (nI p))] [] (am_st L3 Lg rr' n) := by
        refine lp_up _ (fun p hp ih => ?_) ?_
        · intro L3 hL3 ho hj
          have e9 := hj p hp
          rw [if_neg (Nat.lt_irrefl p)] at e9
          have f1 := (ok.1 m (by omega)).1 p hp
          have g1' := fm.1.1 p hp
          rw [cnt_s] at ih
          refine am_step _ _ _ (b_M_read_62 ⟨fun _ => s_Mto (by decide) (by omega) hp e9 ⟨_, rfl, am_step _ _ _ (b_M_read_78 ?_)⟩, fun q => absurd (nI_lt hp (by decide)) q⟩)
          have nx : am_St 99 k_M_read (am_st J2 Lg rr' n) (am_qi fun y M2 => ∃ I2 Lg2 rr2, M2 = am_st I2 Lg2 rr2 n ∧ y = nI (g_cnt (fun p => decide (¬ now.1 m p = f2 p)) 24) ∧ vV g_G I2 Lg2 rr2 n) 62 [some (.ref 1469), some (.int (nI m)), some (.int (nI 1)), some (.int (pm L (g_sk tl t r2) 1469 9)), some (.int (nI (if decide (¬ now.1 m p = f2 p) = true then g_cnt (fun p => decide (¬ now.1 m p = f2 p)) p + 1 else g_cnt (fun p => decide (¬ now.1 m p = f2 p)) p))), some (.int (nI (p + 1)))] [] (am_st (am_sr L3 1470 (am_u1 (L3 1470) (24 * m + p) (nI (f2 p)))) Lg rr' n) := ih _ (fun c hc => by rw [am_sr_off _ _ hc, hL3 c hc]) (fun i hi => by rw [am_sr_at, am_u1_off _ _ (by omega)]; exact ho i hi) fun j hj2 => by
            rw [am_sr_at]
            by_cases c : j = p
            · rw [c, am_u1_at, if_pos (Nat.lt_succ_self p)]
            · rw [am_u1_off _ _ (by omega), hj j hj2]
              by_cases c2 : j < p
              · rw [if_pos c2, if_pos (by omega)]
              · rw [if_neg c2, if_neg (by omega)]
          rw [n_un (show p < 2 ^ 32 by omega), show L3 1478 p = nI (f2 p) by rw [hL3 1478 (by decide), d2 p hp], pk_mul, nI_add, n_un (show 24 * m + p < 2 ^ 32 by omega), nI_add, nI_add, nI_add, Nat.add_zero]
          refine ⟨by omega, fun q => ⟨by omega, by omega, ?_⟩, fun q => ⟨by omega, by omega, ?_⟩⟩
          · rw [nI_eq (by omega) (by omega)] at q
            rw [if_neg (by rw [decide_eq_false (fun q2 => q2 q)]; decide)] at nx
            exact nx
          · have hne : ¬ now.1 m p = f2 p := fun q2 => q (by rw [q2])
            rw [if_pos (decide_eq_true hne)] at nx
            exact nx
        · intro L3 hL3 ho hj
          refine am_step _ _ _ (b_M_read_62 ⟨fun q => absurd q (by decide), fun _ => ⟨_, rfl, L3, Lg, rr', rfl, rfl, ?_⟩⟩)
          have q1 : ∀ c, ¬ (1336 ≤ c ∧ c ≤ 1386) → ¬ c = 1438 → ¬ (1441 ≤ c ∧ c ≤ 1456) → ¬ (1469 ≤ c ∧ c ≤ 1470) → ¬ (1477 ≤ c ∧ c ≤ 1479) → ¬ c = 1489 → L3 c = I c := fun c h1 h2 h3 h4 h5 h6 => by rw [hL3 c (by omega), g4 c h6 (by omega), lI c (by omega) (by omega) (by omega) (by omega), e2 c h1 h2 h3]
          have q2 : ∀ c, 1336 ≤ c → c ≤ 1386 → L3 c = J2 c := fun c h1 h2 => by rw [hL3 c (by omega), g4 c (by omega) (by omega), lI c (by omega) (by omega) (by omega) (by omega)]
          have q3 : ∀ j, ¬ j = 9 → ¬ j = 10 → ¬ j = 14 → ¬ j = 28 → L3 1469 j = I 1469 j := fun j h1 h2 h3 h4 => by rw [hL3 1469 (by decide), g3 j h4, lIj j h1 h2 h3]
          have q4 : L3 1469 9 = nI 0 := by rw [hL3 1469 (by decide), g3 9 (by decide), l19]
          have q5 : L3 1438 6 = nI 0 := by rw [hL3 1438 (by decide), g4 1438 (by decide) (by decide), lI 1438 (by decide) (by decide) (by decide) (by decide), hJ2 1438 (by omega), jk 1438 (by decide), j16]
          obtain ⟨v1, v2, v3, v4, v5, v6⟩ := hV
          have n4 : ∀ q, ¬ q = m → am_u1 now.1 m f2 q = now.1 q := fun q hq => am_u1_off _ _ hq
          have n44 : am_u1 now.1 m f2 m = f2 := am_u1_at _ _ _
          obtain ⟨z1, z2, z3, π, z4, z5, z6⟩ := hJ
          refine ⟨v1.fr (fun b h1 h2 => q1 b (by omega) (by omega) (by omega) (by omega) (by omega) (by omega)) (fun b h1 h2 => q1 b (by omega) (by omega) (by omega) (by omega) (by omega) (by omega)) (q3 3 (by decide) (by decide) (by decide) (by decide)), ⟨(am_u1 now.1 m f2, now.2.1, now.2.2), g_ku us, g_kk us now ks, ⟨fun q hq => ?_, ok.2.1, ok.2.2⟩, g_kk_ok hu ok hks, ⟨⟨fun q hq x hx => ?_, ?_, ?_⟩, ?_, z3, π, z4, z5, fun k hk => (z6 k hk).fr fun b b1 b2 => ?_⟩, ⟨⟨fun q hq x hx => ?_, ?_, ?_⟩, fun k hk => ?_⟩, ?_⟩, v3.fr (fun b h1 h2 => q1 b (by omega) (by omega) (by omega) (by omega) (by omega) (by omega)) (by rw [q1 12 (by decide) (by decide) (by decide) (by decide) (by decide) (by decide)]) (q1 1490 (by decide) (by decide) (by decide) (by decide) (by decide) (by decide)) (q1 1491 (by decide) (by decide) (by decide) (by decide) (by decide) (by decide)) (q3 31 (by decide) (by decide) (by decide) (by decide)) (by rw [k3 1395 (by decide), rr1 1395 (by decide)]), ⟨0, fun _ => 0, by decide, q5, q4, fun k hk => absurd hk (Nat.not_lt_zero k)⟩, v5.fr (q1 1463 (by decide) (by decide) (by decide) (by decide) (by decide) (by decide)) (q1 1464 (by decide) (by decide) (by decide) (by decide) (by decide) (by decide)) (q1 1492 (by decide) (by decide) (by decide) (by decide) (by decide) (by decide)) (q1 1493 (by decide) (by decide) (by decide) (by decide) (by decide) (by decide)) (fun _ _ => rfl) rfl, g_G_fr I L3 (fun b hb => q1 b (by omega) (by omega) (by omega) (by omega) (by omega) (by omega)) (q3 19 (by decide) (by decide) (by decide) (by decide)) (q3 21 (by decide) (by decide) (by decide) (by decide)) (q3 22 (by decide) (by decide) (by decide) (by decide)) v6⟩
          · show a_pm (am_u1 now.1 m f2 q)
            by_cases e : q = m
            · rw [e, n44]
              exact fm.1
            · rw [n4 q e]
              exact ok.1 q hq
          · show L3 (1337 + 2 + q) x = nI (am_u1 now.1 m f2 q x)
            rw [q2 _ (by omega) (by omega)]
            by_cases e : q = m
            · rw [e, n44, show 1337 + 2 + m = 1339 + m by omega]
              exact hp2 x hx
            · rw [n4 q e, hJ2 _ (by omega)]
              exact z1.1 q hq x hx
          · rw [q2 1337 (by decide) (by decide), hJ2 1337 (by omega)]
            exact z1.2.1
          · rw [q2 1337 (by decide) (by decide), hJ2 1337 (by omega)]
            exact z1.2.2
          · rw [q2 1336 (by decide) (by decide), hJ2 1336 (by omega)]
            exact z2
          · have := (z4 k (by have := g_ku_le hu; omega)).1
            rw [q2 b (by omega) (by omega), hJ2 b (by omega)]
          · show L3 1470 (0 + (24 * q + x)) = nI (am_u1 now.1 m f2 q x)
            rw [Nat.zero_add]
            by_cases e : q = m
            · rw [e, n44, hj x hx, if_pos hx]
            · rw [n4 q e, ho _ (by omega)]
              have := g1.1.1 q hq x hx
              rw [Nat.zero_add] at this
              exact this
          · rw [ho _ (by omega)]
            exact g1.1.2.1
          · rw [ho _ (by omega)]
            exact g1.1.2.2
          · rw [hL3 1489 (by decide)]
            exact g1.2 k hk
          · rw [hL3 1469 (by decide), g2]
      exact key 0 (by decide) L2 (fun _ _ => rfl) (fun _ _ => rfl) fun j hj => by
        rw [if_neg (Nat.not_lt_zero j)]
        have := g1.1.1 m (by omega) j hj
        rw [Nat.zero_add] at this
        exact this
    · -- a fault
      obtain ⟨rs, rtl⟩ := T_no t1 curm hr
      generalize hJ1 : am_sr (ps I' r) 1438 (am_u1 (ps I' r 1438) 6 (nI 0)) = J1
      have j1 : ∀ c, ¬ c = 1438 → J1 c = I' c := fun c h => by rw [← hJ1, am_sr_off _ _ h, ps_off _ _ h]
      have j16 : J1 1438 6 = nI 0 := by rw [← hJ1, am_sr_at, am_u1_at]
      have j17 : J1 1438 7 = nI r := by rw [← hJ1, am_sr_at, am_u1_off _ _ (by decide), ps_7]
      have rr1 : ∀ b, ¬ b = 1438 → am_sr rr 1438 (am_u1 (rr 1438) 5 (some 1338)) b = rr b := fun b h => am_sr_off _ _ h
      have jI : ∀ c, ¬ c = 1438 → ¬ (1441 ≤ c ∧ c ≤ 1456) → J1 c = I c := fun c h1 h2 => by rw [j1 c h1, hB c h2]
      rw [j17]
      refine ⟨_, rfl, J1, Lg, _, rfl, jI 0 (by decide) (by decide), ?_⟩
      refine am_in _ _ _ (am_step _ _ _ (b_M_read_0 (s_in (by decide) ⟨_, rfl, am_step _ _ _ (b_M_read_9 ?_)⟩)))
      rw [m5]
      refine ⟨fun q => absurd q z10, fun _ => s_isText (tl := tl) (t := t) (cur := cur) (by decide) curm (uA0 J1 (by rw [jI 1469 (by decide) (by decide)]) (jI 1476 (by decide) (by decide)) (jI 1470 (by decide) (by decide))) (fun r2 f2 hr2 L hU hdone => by rw [hr] at hr2; cases congrArg Prod.snd hr2) fun r2 hr2 L hU => ⟨_, rfl, am_step _ _ _ (b_M_read_18 ?_)⟩⟩
      have er2 : r2 = r := by
        rw [hr] at hr2
        exact (congrArg Prod.fst hr2).symm
      subst er2
      have uL := (uA0 J1 (by rw [jI 1469 (by decide) (by decide)]) (jI 1476 (by decide) (by decide)) (jI 1470 (by decide) (by decide))).fr hU
      have fin : vV g_G (am_sr (pm L r2) 1469 (am_u1 (pm L r2 1469) 9 (nI 0))) Lg (am_sr rr 1438 (am_u1 (rr 1438) 5 (some 1338))) n := by
        generalize hL1 : am_sr (pm L r2) 1469 (am_u1 (pm L r2 1469) 9 (nI 0)) = L1
        have l1 : ∀ c, ¬ c = 1469 → L1 c = L c := fun c h => by rw [← hL1, am_sr_off _ _ h, pm_off _ _ h]
        have l19 : L1 1469 9 = nI 0 := by rw [← hL1, am_sr_at, am_u1_at]
        have l1j : ∀ j, ¬ j = 9 → ¬ j = 10 → L1 1469 j = L 1469 j := fun j h1 h2 => by rw [← hL1, am_sr_at, am_u1_off _ _ h1, pm_j _ _ h2]
        have q1 : ∀ c, ¬ c = 1438 → ¬ (1441 ≤ c ∧ c ≤ 1456) → ¬ c = 1469 → ¬ (1477 ≤ c ∧ c ≤ 1479) → L1 c = I c := fun c h1 h2 h3 h4 => by rw [l1 c h3, hU.1 c (by omega) (by omega) (by omega) h3, jI c h1 h2]
        have q3 : ∀ j, ¬ j = 9 → ¬ j = 10 → ¬ j = 14 → L1 1469 j = I 1469 j := fun j h1 h2 h3 => by rw [l1j j h1 h2, hU.2 j h2 h3, jI 1469 (by decide) (by decide)]
        have q5 : L1 1438 6 = nI 0 := by rw [l1 1438 (by decide), hU.1 1438 (by decide) (by decide) (by decide) (by decide), j16]
        obtain ⟨v1, v2, v3, v4, v5, v6⟩ := hV
        exact ⟨v1.fr (fun b h1 h2 => q1 b (by omega) (by omega) (by omega) (by omega)) (fun b h1 h2 => q1 b (by omega) (by omega) (by omega) (by omega)) (q3 3 (by decide) (by decide) (by decide)), v2.fr (fun b h1 h2 => q1 b (by omega) (by omega) (by omega) (by omega)) (q1 1470 (by decide) (by decide) (by decide) (by decide)) (q1 1489 (by decide) (by decide) (by decide) (by decide)) (q3 28 (by decide) (by decide) (by decide)) (rr1 1344 (by decide)), v3.fr (fun b h1 h2 => q1 b (by omega) (by omega) (by omega) (by omega)) (by rw [q1 12 (by decide) (by decide) (by decide) (by decide)]) (q1 1490 (by decide) (by decide) (by decide) (by decide)) (q1 1491 (by decide) (by decide) (by decide) (by decide)) (q3 31 (by decide) (by decide) (by decide)) (rr1 1395 (by decide)), ⟨0, fun _ => 0, by decide, q5, l19, fun k hk => absurd hk (Nat.not_lt_zero k)⟩, v5.fr (q1 1463 (by decide) (by decide) (by decide) (by decide)) (q1 1464 (by decide) (by decide) (by decide) (by decide)) (q1 1492 (by decide) (by decide) (by decide) (by decide)) (q1 1493 (by decide) (by decide) (by decide) (by decide)) (fun _ _ => rfl) rfl, g_G_fr I L1 (fun b hb => q1 b (by omega) (by omega) (by omega) (by omega)) (q3 19 (by decide) (by decide) (by decide)) (q3 21 (by decide) (by decide) (by decide)) (q3 22 (by decide) (by decide) (by decide)) v6⟩
      refine s_here (by decide) uL.1 rtl ⟨_, rfl, am_step _ _ _ (b_M_read_23 ?_)⟩
      rw [rs]
      have xr := uL.1.L r2
      refine ⟨fun e => ⟨fun _ => ?_, fun q => absurd rfl q⟩, fun e => ⟨fun _ => ?_, fun q => absurd rfl q⟩⟩
      · have e : nI (x_L tl t r2) = nI 0 := e
        rw [nI_eq (by omega) (by decide)] at e
        have er : r2 = tl := Nat.le_antisymm rtl (Nat.le_of_not_lt fun q => by have := xr.2 q; omega)
        refine ⟨_, rfl, _, Lg, _, rfl, ?_, fin⟩
        rw [pm_j _ _ (by decide), uL.1.2.1, er]
      · refine ⟨_, rfl, _, Lg, _, rfl, ?_, fin⟩
        rw [pm_10]
  · refine am_in _ _ _ (am_step _ _ _ (b_X_read_0 (s_isOutside (by decide) ⟨_, rfl, am_step _ _ _ (b_X_read_5 ?_)⟩)))
    rw [m3]
    refine ⟨fun q => absurd q z10, fun _ => ⟨_, rfl, I, Lg, rr, rfl, rfl, am_in _ _ _ (am_step _ _ _ (b_M_read_0 (s_in (by decide) ⟨_, rfl, am_step _ _ _ (b_M_read_9 ?_)⟩)))⟩⟩
    rw [m5]
    exact ⟨fun _ => ⟨_, rfl, I, Lg, rr, rfl, rfl, hV⟩, fun q => absurd rfl q⟩
end OD
