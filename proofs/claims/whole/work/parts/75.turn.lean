/-! THE OPERATION drift -/
theorem lN_div {a b : Nat} (ha : a < 2 ^ 63) (hb : b < 2 ^ 63) (h0 : 0 < b) : lN a / lN b = lN (a / b) := by
  apply Int64.toInt_inj.mp
  have e1 : (lN a).toInt = a := lg_ofNat_toInt ha
  have e2 : (lN b).toInt = b := lg_ofNat_toInt hb
  have e3 : (lN (a / b)).toInt = (a / b : Nat) := lg_ofNat_toInt (Nat.lt_of_le_of_lt (Nat.div_le_self _ _) ha)
  rw [lg_ldiv_nonneg (by omega) (by omega), e1, e2, e3]
  exact (Int.natCast_ediv a b).symm
theorem lN_rem {a b : Nat} (ha : a < 2 ^ 63) (hb : b < 2 ^ 63) (h0 : 0 < b) : lN a - lN a / lN b * lN b = lN (a % b) := by
  rw [lN_div ha hb h0, lN_mul, lN_sub (Nat.div_mul_le_self a b)]
  congr 1
  have := Nat.div_add_mod a b
  rw [Nat.mul_comm b] at this
  omega
theorem i2l_n {r : Nat} (h : r < 2 ^ 31) : (nI r).toInt64 = lN r := by
  apply Int64.toInt_inj.mp
  rw [Int32.toInt_toInt64, nI_toInt h, lN_toInt h]
theorem lN_and (a : Nat) : lN a &&& lN 2147483647 = lN (a % 2147483648) := by
  apply Int64.toBitVec_inj.mp
  rw [Int64.toBitVec_and]
  apply BitVec.eq_of_toNat_eq
  rw [BitVec.toNat_and]
  show (BitVec.ofNat 64 a).toNat &&& (BitVec.ofNat 64 2147483647).toNat = (BitVec.ofNat 64 (a % 2147483648)).toNat
  rw [BitVec.toNat_ofNat, BitVec.toNat_ofNat, BitVec.toNat_ofNat, show (2147483647 % 2 ^ 64 : Nat) = 2 ^ 31 - 1 by decide, Nat.and_two_pow_sub_one_eq_mod]
  omega
/-- the next random number -/
def g_rn (r : Nat) : Nat := (r * 1103515245 + 12345) % 2147483648
theorem rn_lt (r : Nat) : g_rn r < 2 ^ 31 := Nat.mod_lt _ (by decide)
def g_dod (k : Nat) : Nat := (g_ws 12 4096).getD k 0
/-- a turn at random -/
def g_tr (S : a_S) : a_S :=
  if g_rn S.2.2 / 65536 % 8 = 0 then (S.1, g_dod (g_rn S.2.2 / 65536 / 8 % 2576), g_rn S.2.2)
  else (fun m p => if m = g_rn S.2.2 / 65536 % 4 then S.1 (g_rn S.2.2 / 65536 / 8 % 5) (S.1 m p) else S.1 m p, S.2.1, g_rn S.2.2)
theorem dod_dd {k : Nat} (h : k < 2576) : a_dd (g_dod k) := by
  obtain ⟨p, p1, p2, p3⟩ := ws_mem (w := 12) 4096 _ (getD_mem (j := k) (by rw [ws_12]; exact h))
  exact ⟨p, p1, p2, p3⟩
theorem pm_comp {f g : Nat → Nat} (hf : a_pm f) (hg : a_pm g) : a_pm (fun p => g (f p)) := ⟨fun p hp => hg.1 _ (hf.1 p hp), fun p q hp hq e => hf.2 p q hp hq (hg.2 _ _ (hf.1 p hp) (hf.1 q hq) e)⟩
theorem a_ok_mk {f : Nat → Nat → Nat} {c r : Nat} (h1 : ∀ m, m < 5 → a_pm (f m)) (h2 : a_dd c) (h3 : r < 2 ^ 31) : a_ok (f, c, r) := ⟨h1, h2, h3⟩
theorem g_tr_ok {S : a_S} (h : a_ok S) : a_ok (g_tr S) := by
  have r := rn_lt S.2.2
  unfold g_tr
  split
  · exact a_ok_mk h.1 (dod_dd (Nat.mod_lt _ (by decide))) r
  · refine a_ok_mk (fun m hm => ?_) h.2.1 r
    by_cases e : m = g_rn S.2.2 / 65536 % 4
    · have : (fun p => if m = g_rn S.2.2 / 65536 % 4 then S.1 (g_rn S.2.2 / 65536 / 8 % 5) (S.1 m p) else S.1 m p) = fun p => S.1 (g_rn S.2.2 / 65536 / 8 % 5) (S.1 m p) := funext fun p => if_pos e
      rw [this]
      exact pm_comp (h.1 m hm) (h.1 _ (Nat.mod_lt _ (by decide)))
    · have : (fun p => if m = g_rn S.2.2 / 65536 % 4 then S.1 (g_rn S.2.2 / 65536 / 8 % 5) (S.1 m p) else S.1 m p) = fun p => S.1 m p := funext fun p => if_neg e
      rw [this]
      exact h.1 m hm
section DR
variable {d : Nat} {K : Option Value → am_M → Prop} {I : Nat → Nat → Int32} {Lg : Nat → Nat → Int64} {rr : Nat → Nat → Option Nat} {n : Nat} {M0 : am_M} {G : (Nat → Nat → Int32) → Prop}
theorem s_Mo_to {a q x : Nat} (hd : 1 ≤ d) (ha : am_ro 1497 a 24) (hq : q < 24) (hx : I a q = nI x) (h : K (some (.int (nI x))) (am_st I Lg rr n)) : am_AC d k_Mo_to [.ref a, .int (nI q)] (am_st I Lg rr n) K := by
  obtain ⟨d, rfl, hd1⟩ := s_up hd
  have e : am_un (nI q) = q := n_un (by omega)
  refine am_in _ _ _ (am_step _ _ _ (b_Mo_to_0 ⟨fun c => absurd c (show ¬ nI q < nI 0 from nI_nlt (Nat.zero_le _) (by omega)), fun _ => am_gi ha.g1 ⟨fun _ => am_gi (oS_ro ha) ?_, fun c => ?_⟩⟩))
  · rw [e, ha.n, hx]
    exact ⟨hq, h⟩
  · rw [ha.n] at c
    exact absurd (nI_lt hq (by decide)) c
theorem s_follow {a b : Nat} {f g : Nat → Nat} (hd : 2 ≤ d) (ha : am_ro 1497 a 24) (hb : am_ro 1497 b 24) (hab : ¬ a = b) (hf : ∀ p, p < 24 → I a p = nI (f p) ∧ f p < 24) (hg : ∀ p, p < 24 → I b p = nI (g p)) (h : ∀ w, (∀ p, p < 24 → w p = nI (g (f p))) → K none (am_st (am_sr I a w) Lg rr n)) : am_AC d k_Mo_follow [.ref a, .ref b] (am_st I Lg rr n) K := by
  obtain ⟨d, rfl, hd1⟩ := s_up hd
  have key : ∀ k, k ≤ 24 → ∀ w, (∀ p, p < 24 → w p = if p < k then nI (g (f p)) else nI (f p)) → am_St d k_Mo_follow (am_st I Lg rr n) K 2 [some (.ref a), some (.ref b), some (.int (nI k))] [] (am_st (am_sr I a w) Lg rr n) := by
    refine lp_up _ (fun k hk ih => ?_) ?_
    · intro w hw
      have e : am_un (nI k) = k := n_un (by omega)
      have ew : am_sr I a w a k = nI (f k) := by rw [am_sr_at, hw k hk, if_neg (Nat.lt_irrefl k)]
      refine am_step _ _ _ (b_Mo_follow_2 (am_gi ha.g1 ⟨fun _ => am_gi (oS_ro ha) ?_, fun c => ?_⟩))
      · rw [e, ha.n, ew]
        refine ⟨hk, s_Mo_to hd1 hb (hf k hk).2 (x := g (f k)) (by rw [am_sr_off _ _ (fun c => hab c.symm)]; exact hg _ (hf k hk).2) ⟨_, rfl, am_step _ _ _ (b_Mo_follow_17 (am_gi ha.g3 ?_))⟩⟩
        rw [e, ha.n, am_sr_at, am_sr_sr, nI_add]
        refine ⟨hk, ih _ (fun p hp => ?_)⟩
        by_cases c : p = k
        · subst c
          rw [am_u1_at, if_pos (Nat.lt_succ_self p)]
        · rw [am_u1_off _ _ c, hw p hp]
          by_cases c2 : p < k
          · rw [if_pos c2, if_pos (by omega)]
          · rw [if_neg c2, if_neg (by omega)]
      · rw [ha.n] at c
        exact absurd (nI_lt hk (by decide)) c
    · intro w hw
      refine am_step _ _ _ (b_Mo_follow_2 (am_gi ha.g1 ⟨fun c => ?_, fun _ => h w fun p hp => ?_⟩))
      · rw [ha.n] at c
        exact absurd c (by decide)
      · rw [hw p hp, if_pos hp]
  have k0 := key 0 (by decide) (I a) (fun p hp => by rw [if_neg (Nat.not_lt_zero p)]; exact (hf p hp).1)
  rw [am_sr_id] at k0
  exact am_in _ _ _ (am_step _ _ _ (b_Mo_follow_0 k0))
theorem ro_spare : am_ro 1497 1468 24 := ⟨rfl, rfl, by decide, by decide⟩
theorem s_turnAtRandom {S : a_S} (hd : 3 ≤ d) (hT : vT I) (ok : a_ok S) (hc : c_S I 1337 S) (h : ∀ J, c_S J 1337 (g_tr S) → (∀ b, ¬ (1337 ≤ b ∧ b ≤ 1343) → ¬ b = 1468 → J b = I b) → K none (am_st J Lg rr n)) : am_AC d k_X_turnAtRandom [.ref 12, .ref 1337] (am_st I Lg rr n) K := by
  obtain ⟨d, rfl, hd1⟩ := s_up hd
  have hr := ok.2.2
  have er : (((((I 1337 2).toInt64) * (lN 1103515245)) + (lN 12345)) &&& (lN 2147483647)).toInt32 = nI (g_rn S.2.2) := by
    rw [hc.2.2, i2l_n hr, lN_mul, lN_add, lN_and, lN_i]
    rfl
  have r2 := rn_lt S.2.2
  generalize hR : g_rn S.2.2 = r at *
  have e2 : am_sr I 1337 (am_u1 (I 1337) 2 (nI r)) 1337 2 = nI r := by rw [am_sr_at, am_u1_at]
  have x1 : nI r / nI 65536 = nI (r / 65536) := pk_div (by omega) (by decide) (by decide)
  have x2 : nI (r / 65536) - nI (r / 65536) / nI 8 * nI 8 = nI (r / 65536 % 8) := pk_rem (by omega) (by decide) (by decide)
  have x3 : nI (r / 65536) / nI 8 = nI (r / 65536 / 8) := pk_div (by omega) (by decide) (by decide)
  have x4 : nI (r / 65536 / 8) - nI (r / 65536 / 8) / nI 2576 * nI 2576 = nI (r / 65536 / 8 % 2576) := pk_rem (by omega) (by decide) (by decide)
  have x5 : nI (r / 65536) - nI (r / 65536) / nI 4 * nI 4 = nI (r / 65536 % 4) := pk_rem (by omega) (by decide) (by decide)
  have x6 : nI (r / 65536 / 8) - nI (r / 65536 / 8) / nI 5 * nI 5 = nI (r / 65536 / 8 % 5) := pk_rem (by omega) (by decide) (by decide)
  have m4 : r / 65536 % 4 < 4 := Nat.mod_lt _ (by decide)
  have m5 : r / 65536 / 8 % 5 < 5 := Nat.mod_lt _ (by decide)
  have mD : r / 65536 / 8 % 2576 < 2576 := Nat.mod_lt _ (by decide)
  have m8 : r / 65536 % 8 < 8 := Nat.mod_lt _ (by decide)
  have eu4 : am_un (nI (r / 65536 % 4)) = r / 65536 % 4 := n_un (by omega)
  have eu5 : am_un (nI (r / 65536 / 8 % 5)) = r / 65536 / 8 % 5 := n_un (by omega)
  have euD : am_un (nI (r / 65536 / 8 % 2576)) = r / 65536 / 8 % 2576 := n_un (by omega)
  have l5 : am_lS n 1338 = 5 := rfl
  refine am_in _ _ _ (am_step _ _ _ (b_X_turnAtRandom_0 (am_gi rfl (am_gi rfl (am_gi rfl ?_)))))
  rw [er, e2, x1, x2, x3, x4, x5, eu4, euD]
  have e22 : am_sr I 1337 (am_u1 (I 1337) 2 (nI r)) 22 (r / 65536 / 8 % 2576) = nI (g_dod (r / 65536 / 8 % 2576)) := by
    rw [am_sr_off _ _ (by decide)]
    exact hT.2.1.2.2.1 _ mD
  have cp2 := hc.put2 (r := r)
  refine ⟨fun q => ⟨mD, am_gi rfl ?_⟩, fun q => am_gi rfl (am_obi (b := 1338) rfl (am_gi rfl ?_))⟩
  · have q : nI (r / 65536 % 8) = nI 0 := q
    rw [nI_eq (by omega) (by decide)] at q
    rw [e22, am_sr_at, am_sr_sr]
    have et : g_tr S = (S.1, g_dod (r / 65536 / 8 % 2576), r) := by
      unfold g_tr
      rw [hR, if_pos q]
    have := cp2.put1 (c := g_dod (r / 65536 / 8 % 2576))
    rw [am_sr_at, am_sr_sr] at this
    refine h _ ?_ (fun b b1 b2 => am_sr_off _ _ (by omega))
    rw [et]
    exact this
  · have q : ¬ r / 65536 % 8 = 0 := fun e => q (by rw [e]; rfl)
    rw [l5]
    refine ⟨by omega, am_obi (RR_now rr _ (by omega)) ?_⟩
    generalize hI1 : am_sr I 1337 (am_u1 (I 1337) 2 (nI r)) = I1 at *
    have hf := (ok.1 (r / 65536 % 4) (by omega))
    have hg := (ok.1 (r / 65536 / 8 % 5) m5)
    refine s_assign (by omega) ro_spare (ro_now (by omega)) ⟨rfl, am_step _ _ _ (b_X_turnAtRandom_76 (am_gi rfl (am_obi (b := 1338) rfl (am_gi rfl ?_))))⟩
    rw [x6, eu5, l5]
    refine ⟨m5, am_obi (RR_now rr _ m5) (s_follow hd1 ro_spare (ro_now m5) (by omega) (f := S.1 (r / 65536 % 4)) (g := S.1 (r / 65536 / 8 % 5)) (fun p hp => ⟨?_, hf.1 p hp⟩) (fun p hp => ?_) (fun w hw => ⟨rfl, am_step _ _ _ (b_X_turnAtRandom_91 (am_gi rfl (am_obi (b := 1338) rfl (am_gi rfl ?_))))⟩))⟩
    · rw [am_sr_at, am_fl_in _ _ hp]
      exact now_x cp2 (by omega) p hp
    · rw [am_sr_off _ _ (by omega)]
      exact now_x cp2 m5 p hp
    · rw [x5, eu4, l5]
      refine ⟨by omega, am_obi (RR_now rr _ (by omega)) (s_assign (by omega) (ro_now (by omega)) ro_spare ⟨rfl, am_step _ _ _ (b_X_turnAtRandom_106 ?_)⟩)⟩
      have et : g_tr S = (fun m p => if m = r / 65536 % 4 then S.1 (r / 65536 / 8 % 5) (S.1 m p) else S.1 m p, S.2.1, r) := by
        unfold g_tr
        rw [hR, if_neg q]
      rw [et] at h
      refine h _ ⟨fun m hm p hp => ?_, ?_, ?_⟩ (fun b b1 b2 => ?_)
      · rw [show 1337 + 2 + m = 1339 + m by omega]
        dsimp only
        by_cases e : m = r / 65536 % 4
        · rw [if_pos e, e, am_sr_at, am_fl_in _ _ hp, am_sr_at, hw p hp]
        · rw [if_neg e, am_sr_off _ _ (by omega), am_sr_off _ _ (by omega), am_sr_off _ _ (by omega)]
          exact now_x cp2 hm p hp
      · rw [am_sr_off _ _ (by omega), am_sr_off _ _ (by omega), am_sr_off _ _ (by omega)]
        exact cp2.2.1
      · rw [am_sr_off _ _ (by omega), am_sr_off _ _ (by omega), am_sr_off _ _ (by omega)]
        exact cp2.2.2
      · rw [am_sr_off _ _ (by omega), am_sr_off _ _ b2, am_sr_off _ _ b2, ← hI1, am_sr_off _ _ (by omega)]
end DR
