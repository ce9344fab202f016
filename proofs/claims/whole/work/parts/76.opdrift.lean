theorem b_M_drift_16b {C : am_C} {X : am_K} {Rt : Option Value → am_M → Prop} {zm sm : Nat} {I : Nat → Nat → Int32} {Lg : Nat → Nat → Int64} {rr : Nat → Nat → Option Nat} {n : Nat} {w3 : Int64} {w5 : Int32} {v1 : Int32} {v2 : Int32} (h : (v2 < v1 → C k_M_notes [.ref 1469] (am_st I Lg rr n) (am_qv fun M1 => X 25 [some (.ref 1469), some (.int v1), some (.int v2), some (.long w3), none, some (.int w5)] [] M1)) ∧ (¬ v2 < v1 → am_un (nI 120) < 122 ∧ Rt (some (.int (I 1470 (am_un (nI 120))))) (am_st I Lg rr n))) : am_F am_mt C (am_tb 236) zm sm Rt (am_blk am_mt C (am_tb 236) zm sm Rt [9, 16, 25, 90, 109] X 400) 16 [some (.ref 1469), some (.int v1), some (.int v2), some (.long w3), none, some (.int w5)] [] (am_st I Lg rr n) := h
set_option maxRecDepth 100000 in
theorem b_M_drift_25b {C : am_C} {X : am_K} {Rt : Option Value → am_M → Prop} {zm sm : Nat} {I : Nat → Nat → Int32} {Lg : Nat → Nat → Int64} {rr : Nat → Nat → Option Nat} {n : Nat} {w3 : Int64} {w5 : Int32} {v1 : Int32} {v2 : Int32} (h : am_un (nI 121) < 122 ∧ am_un (nI 121) < 122 ∧ (((((((((I 1470 (am_un (nI 121))).toInt64) * (lN 1103515245)) + (lN 12345)) - ((((I 1470 (am_un (nI 121))).toInt64) * (lN 1103515245)) + (lN 12345)) / (lN 2147483648) * (lN 2147483648)) / (lN 65536)).toInt32) - (((((((I 1470 (am_un (nI 121))).toInt64) * (lN 1103515245)) + (lN 12345)) - ((((I 1470 (am_un (nI 121))).toInt64) * (lN 1103515245)) + (lN 12345)) / (lN 2147483648) * (lN 2147483648)) / (lN 65536)).toInt32) / (nI 8) * (nI 8)) = 0 → C k_M_dodecad [.ref 1469, .int (((((((((I 1470 (am_un (nI 121))).toInt64) * (lN 1103515245)) + (lN 12345)) - ((((I 1470 (am_un (nI 121))).toInt64) * (lN 1103515245)) + (lN 12345)) / (lN 2147483648) * (lN 2147483648)) / (lN 65536)).toInt32) / (nI 8)) - ((((((((I 1470 (am_un (nI 121))).toInt64) * (lN 1103515245)) + (lN 12345)) - ((((I 1470 (am_un (nI 121))).toInt64) * (lN 1103515245)) + (lN 12345)) / (lN 2147483648) * (lN 2147483648)) / (lN 65536)).toInt32) / (nI 8)) / (nI 2576) * (nI 2576))] (am_st (am_sr I 1470 (am_u1 (I 1470) (am_un (nI 121)) ((((((I 1470 (am_un (nI 121))).toInt64) * (lN 1103515245)) + (lN 12345)) - ((((I 1470 (am_un (nI 121))).toInt64) * (lN 1103515245)) + (lN 12345)) / (lN 2147483648) * (lN 2147483648)).toInt32))) Lg rr n) (am_qi fun x1 M1 => X 90 [some (.ref 1469), some (.int v1), some (.int v2), some (.long (((((I 1470 (am_un (nI 121))).toInt64) * (lN 1103515245)) + (lN 12345)) - ((((I 1470 (am_un (nI 121))).toInt64) * (lN 1103515245)) + (lN 12345)) / (lN 2147483648) * (lN 2147483648))), none, some (.int (((((((I 1470 (am_un (nI 121))).toInt64) * (lN 1103515245)) + (lN 12345)) - ((((I 1470 (am_un (nI 121))).toInt64) * (lN 1103515245)) + (lN 12345)) / (lN 2147483648) * (lN 2147483648)) / (lN 65536)).toInt32))] [.int x1, .int (nI 120), .ref 1470] M1)) ∧ (¬ ((((((((I 1470 (am_un (nI 121))).toInt64) * (lN 1103515245)) + (lN 12345)) - ((((I 1470 (am_un (nI 121))).toInt64) * (lN 1103515245)) + (lN 12345)) / (lN 2147483648) * (lN 2147483648)) / (lN 65536)).toInt32) - (((((((I 1470 (am_un (nI 121))).toInt64) * (lN 1103515245)) + (lN 12345)) - ((((I 1470 (am_un (nI 121))).toInt64) * (lN 1103515245)) + (lN 12345)) / (lN 2147483648) * (lN 2147483648)) / (lN 65536)).toInt32) / (nI 8) * (nI 8)) = 0 → C k_M_doubles [.ref 1469, .int ((((((((I 1470 (am_un (nI 121))).toInt64) * (lN 1103515245)) + (lN 12345)) - ((((I 1470 (am_un (nI 121))).toInt64) * (lN 1103515245)) + (lN 12345)) / (lN 2147483648) * (lN 2147483648)) / (lN 65536)).toInt32) - (((((((I 1470 (am_un (nI 121))).toInt64) * (lN 1103515245)) + (lN 12345)) - ((((I 1470 (am_un (nI 121))).toInt64) * (lN 1103515245)) + (lN 12345)) / (lN 2147483648) * (lN 2147483648)) / (lN 65536)).toInt32) / (nI 4) * (nI 4)), .int (((((((((I 1470 (am_un (nI 121))).toInt64) * (lN 1103515245)) + (lN 12345)) - ((((I 1470 (am_un (nI 121))).toInt64) * (lN 1103515245)) + (lN 12345)) / (lN 2147483648) * (lN 2147483648)) / (lN 65536)).toInt32) / (nI 8)) - ((((((((I 1470 (am_un (nI 121))).toInt64) * (lN 1103515245)) + (lN 12345)) - ((((I 1470 (am_un (nI 121))).toInt64) * (lN 1103515245)) + (lN 12345)) / (lN 2147483648) * (lN 2147483648)) / (lN 65536)).toInt32) / (nI 8)) / (nI 5) * (nI 5))] (am_st (am_sr I 1470 (am_u1 (I 1470) (am_un (nI 121)) ((((((I 1470 (am_un (nI 121))).toInt64) * (lN 1103515245)) + (lN 12345)) - ((((I 1470 (am_un (nI 121))).toInt64) * (lN 1103515245)) + (lN 12345)) / (lN 2147483648) * (lN 2147483648)).toInt32))) Lg rr n) (am_qv fun M2 => X 109 [some (.ref 1469), some (.int v1), some (.int v2), some (.long (((((I 1470 (am_un (nI 121))).toInt64) * (lN 1103515245)) + (lN 12345)) - ((((I 1470 (am_un (nI 121))).toInt64) * (lN 1103515245)) + (lN 12345)) / (lN 2147483648) * (lN 2147483648))), none, some (.int (((((((I 1470 (am_un (nI 121))).toInt64) * (lN 1103515245)) + (lN 12345)) - ((((I 1470 (am_un (nI 121))).toInt64) * (lN 1103515245)) + (lN 12345)) / (lN 2147483648) * (lN 2147483648)) / (lN 65536)).toInt32))] [] M2))) : am_F am_mt C (am_tb 236) zm sm Rt (am_blk am_mt C (am_tb 236) zm sm Rt [9, 16, 25, 90, 109] X 400) 25 [some (.ref 1469), some (.int v1), some (.int v2), some (.long w3), none, some (.int w5)] [] (am_st I Lg rr n) := h
/-! THE OPERATION drift, II -/
/-- one step of a drift: now, how many can be undone, which -/
abbrev a_T : Type := a_S × Nat × (Nat → a_S)
def g_h1 (T : a_T) : a_T := (g_tr T.1, g_ku T.2.1, g_kk T.2.1 T.1 T.2.2)
def g_itr (T : a_T) (k : Nat) : a_T := itn (fun _ T => g_h1 T) T k
theorem itr_s (T : a_T) (k : Nat) : g_itr T (k + 1) = g_h1 (g_itr T k) := rfl
theorem itr_ok {T : a_T} (h1 : a_ok T.1) (h2 : T.2.1 ≤ 6) (h3 : ∀ k, k < T.2.1 → a_ok (T.2.2 k)) : ∀ k, a_ok (g_itr T k).1 ∧ (g_itr T k).2.1 ≤ 6 ∧ ∀ j, j < (g_itr T k).2.1 → a_ok ((g_itr T k).2.2 j)
  | 0 => ⟨h1, h2, h3⟩
  | k + 1 => by
    obtain ⟨q1, q2, q3⟩ := itr_ok h1 h2 h3 k
    rw [itr_s]
    exact ⟨g_tr_ok q1, g_ku_le q2, g_kk_ok q2 q1 q3⟩
theorem g_tr_1 {S : a_S} (h : g_rn S.2.2 / 65536 % 8 = 0) : g_tr S = (S.1, g_dod (g_rn S.2.2 / 65536 / 8 % 2576), g_rn S.2.2) := if_pos h
theorem g_tr_2 {S : a_S} (h : ¬ g_rn S.2.2 / 65536 % 8 = 0) : g_tr S = (fun m p => if m = g_rn S.2.2 / 65536 % 4 then S.1 (g_rn S.2.2 / 65536 / 8 % 5) (S.1 m p) else S.1 m p, S.2.1, g_rn S.2.2) := if_neg h
theorem m_S_mk {f : Nat → Int32} {g : Nat → Nat → Nat} {c r : Nat} (h1 : ∀ m, m < 5 → ∀ p, p < 24 → f (0 + (24 * m + p)) = nI (g m p)) (h2 : f (0 + 120) = nI c) (h3 : f (0 + 121) = nI r) : m_S f 0 (g, c, r) := ⟨h1, h2, h3⟩
/-- V when states and what can be undone changed, and scratch rows -/
theorem vV.hist3 {G : (Nat → Nat → Int32) → Prop} {I I' : Nat → Nat → Int32} {Lg : Nat → Nat → Int64} {rr rr' : Nat → Nat → Option Nat} {n : Nat} (hG : g_fr G) (h : vV G I Lg rr n) (hs : vSt I' rr') (hk : ∀ b, ¬ (1336 ≤ b ∧ b ≤ 1386) → ¬ b = 1469 → ¬ b = 1470 → ¬ b = 1489 → ¬ b = 1468 → ¬ (1477 ≤ b ∧ b ≤ 1479) → ¬ (1438 ≤ b ∧ b ≤ 1456) → I' b = I b) (h68 : ∀ j, ¬ j = 28 → I' 1469 j = I 1469 j) (hr : ∀ b, ¬ b = 1344 → rr' b = rr b) (h37 : I' 1438 6 = I 1438 6) (h38 : I' 1439 = I 1439) : vV G I' Lg rr' n := by
  obtain ⟨h1, h2, h3, h4, h5, h6⟩ := h
  have k : ∀ b, ¬ (1336 ≤ b ∧ b ≤ 1386) ∧ ¬ b = 1469 ∧ ¬ b = 1470 ∧ ¬ b = 1489 ∧ ¬ b = 1468 ∧ ¬ (1477 ≤ b ∧ b ≤ 1479) ∧ ¬ (1438 ≤ b ∧ b ≤ 1456) → I' b = I b := fun b q => hk b q.1 q.2.1 q.2.2.1 q.2.2.2.1 q.2.2.2.2.1 q.2.2.2.2.2.1 q.2.2.2.2.2.2
  exact ⟨h1.fr (fun b b1 b2 => k b (by omega)) (fun b b1 b2 => k b (by omega)) (h68 _ (by decide)), hs, h3.fr (fun b b1 b2 => k b (by omega)) (by rw [k 12 (by omega)]) (k _ (by omega)) (k _ (by omega)) (h68 _ (by decide)) (hr _ (by decide)), h4.fr h37 (h68 _ (by decide)) h38 (k _ (by omega)), h5.fr (k _ (by omega)) (k _ (by omega)) (k _ (by omega)) (k _ (by omega)) (fun _ _ => rfl) rfl, hG I I' (fun b hb => k b (by omega)) (h68 _ (by decide)) (h68 _ (by decide)) (h68 _ (by decide)) h6⟩
section D2
variable {d : Nat} {K : Option Value → am_M → Prop} {I : Nat → Nat → Int32} {Lg : Nat → Nat → Int64} {rr : Nat → Nat → Option Nat} {n : Nat} {M0 : am_M} {G : (Nat → Nat → Int32) → Prop}
theorem s_doubles {m b : Nat} {F : Nat → Nat → Nat} {c r : Nat} (hd : 2 ≤ d) (hm : m < 4) (hb : b < 5) (hS : m_S (I 1470) 0 (F, c, r)) (ok : ∀ m, m < 5 → a_pm (F m)) (h : ∀ J, m_S (J 1470) 0 (fun x p => if x = m then F b (F x p) else F x p, c, r) → (∀ b, ¬ b = 1470 → ¬ b = 1479 → J b = I b) → K none (am_st J Lg rr n)) : am_AC d k_M_doubles [.ref 1469, .int (nI m), .int (nI b)] (am_st I Lg rr n) K := by
  obtain ⟨d, rfl, hd1⟩ := s_up hd
  have k2 : ∀ p, p ≤ 24 → ∀ f g, (∀ x, x < 24 → f x = nI (F b (F m x))) → (∀ x, g x = if 24 * m ≤ x ∧ x < 24 * m + p then f (x - 24 * m) else I 1470 x) → am_St d k_M_doubles (am_st I Lg rr n) K 33 [some (.ref 1469), some (.int (nI m)), some (.int (nI b)), some (.int (nI p))] [] (am_st (am_sr (am_sr I 1479 f) 1470 g) Lg rr n) := by
    refine lp_up _ (fun p hp ih => ?_) ?_
    · intro f g hf hg
      have ep : am_un (nI p) = p := n_un (by omega)
      have ei : am_un (nI 24 * nI m + nI p) = 24 * m + p := by
        rw [pk_mul, nI_add]
        exact n_un (by omega)
      refine am_step _ _ _ (b_M_doubles_33 ⟨fun _ => ?_, fun q => absurd (nI_lt hp (by decide)) q⟩)
      rw [ep, ei, am_sr_at, am_sr_sr, am_sr_off _ _ (show ¬ 1479 = 1470 by decide), am_sr_at, nI_add]
      refine ⟨hp, by omega, ih f _ hf (fun x => ?_)⟩
      by_cases e : x = 24 * m + p
      · subst e
        rw [am_u1_at, if_pos (by omega), show 24 * m + p - 24 * m = p by omega]
      · rw [am_u1_off _ _ e, hg x]
        by_cases e2 : 24 * m ≤ x ∧ x < 24 * m + p
        · rw [if_pos e2, if_pos (by omega)]
        · rw [if_neg e2, if_neg (by omega)]
    · intro f g hf hg
      refine am_step _ _ _ (b_M_doubles_33 ⟨fun q => absurd q (by decide), fun _ => h _ ?_ (fun b b1 b2 => ?_)⟩)
      · rw [am_sr_at]
        refine m_S_mk (fun x hx p hp => ?_) ?_ ?_
        · rw [hg]
          by_cases e : x = m
          · subst e
            rw [if_pos (by omega), if_pos rfl, show 0 + (24 * x + p) - 24 * x = p by omega, hf p hp]
          · rw [if_neg (by omega), if_neg e]
            exact hS.1 x hx p hp
        · rw [hg, if_neg (by omega)]
          exact hS.2.1
        · rw [hg, if_neg (by omega)]
          exact hS.2.2
      · rw [am_sr_off _ _ b1, am_sr_off _ _ b2]
  have k1 : ∀ p, p ≤ 24 → ∀ f, (∀ x, x < p → f x = nI (F b (F m x))) → am_St d k_M_doubles (am_st I Lg rr n) K 2 [some (.ref 1469), some (.int (nI m)), some (.int (nI b)), some (.int (nI p))] [] (am_st (am_sr I 1479 f) Lg rr n) := by
    refine lp_up _ (fun p hp ih => ?_) ?_
    · intro f hf
      have ep : am_un (nI p) = p := n_un (by omega)
      have n1 : am_sr I 1479 f 1470 (24 * m + p) = nI (F m p) := by
        rw [am_sr_off _ _ (by decide)]
        exact now_m hS (by omega) p hp
      have lt := (ok m (by omega)).1 p hp
      have n2 : am_sr I 1479 f 1470 (24 * b + F m p) = nI (F b (F m p)) := by
        rw [am_sr_off _ _ (by decide)]
        exact now_m hS hb _ lt
      refine am_step _ _ _ (b_M_doubles_2 ⟨fun _ => s_Mto hd1 (by omega) hp n1 ⟨_, rfl, am_step _ _ _ (b_M_doubles_21 (s_Mto hd1 hb lt n2 ⟨_, rfl, am_step _ _ _ (b_M_doubles_24 ?_)⟩))⟩, fun q => absurd (nI_lt hp (by decide)) q⟩)
      rw [ep, am_sr_at, am_sr_sr, nI_add]
      refine ⟨hp, ih _ (fun x hx => ?_)⟩
      by_cases e : x = p
      · subst e
        rw [am_u1_at]
      · rw [am_u1_off _ _ e, hf x (by omega)]
    · intro f hf
      refine am_step _ _ _ (b_M_doubles_2 ⟨fun q => absurd q (by decide), fun _ => ?_⟩)
      have k0 := k2 0 (by decide) f (I 1470) hf (fun x => by rw [if_neg (by omega)])
      have e9 : am_sr (am_sr I 1479 f) 1470 (I 1470) = am_sr I 1479 f := by
        funext b
        by_cases e : b = 1470
        · subst e
          rw [am_sr_at, am_sr_off _ _ (by decide)]
        · rw [am_sr_off _ _ e]
      rw [e9] at k0
      exact k0
  have k0 := k1 0 (by decide) (I 1479) (fun x hx => absurd hx (Nat.not_lt_zero x))
  rw [am_sr_id] at k0
  exact am_in _ _ _ (am_step _ _ _ (b_M_doubles_0 k0))
theorem dod_eq (k : Nat) : (g_ws 12 4096).getD k 0 = g_dod k := rfl
/-- a turn at random of the model -/
theorem s_Mturn {S : a_S} {c k : Int32} (hd : 2 ≤ d) (hT : vT I) (ok : a_ok S) (hS : m_S (I 1470) 0 S) (h : ∀ J (w : Int64) (y : Int32), m_S (J 1470) 0 (g_tr S) → (∀ b, ¬ b = 1470 → ¬ b = 1479 → J b = I b) → am_St d k_M_drift M0 K 16 [some (.ref 1469), some (.int c), some (.int (k + nI 1)), some (.long w), none, some (.int y)] [] (am_st J Lg rr n)) : am_St d k_M_drift M0 K 25 [some (.ref 1469), some (.int c), some (.int k), none, none, none] [] (am_st I Lg rr n) := by
  have hr := ok.2.2
  have e1 : I 1470 (am_un (nI 121)) = nI S.2.2 := hS.2.2
  have big : S.2.2 * 1103515245 + 12345 < 2 ^ 63 := by omega
  have e2 : (((nI S.2.2).toInt64 * lN 1103515245) + lN 12345) - (((nI S.2.2).toInt64 * lN 1103515245) + lN 12345) / lN 2147483648 * lN 2147483648 = lN (g_rn S.2.2) := by
    rw [i2l_n hr, lN_mul, lN_add, lN_rem big (by decide) (by decide)]
    rfl
  have r2 := rn_lt S.2.2
  have x0 : (lN (g_rn S.2.2) / lN 65536).toInt32 = nI (g_rn S.2.2 / 65536) := by rw [lN_div (by omega) (by decide) (by decide), lN_i]
  have t1 := fun q => @g_tr_1 S q
  have t2 := fun q => @g_tr_2 S q
  generalize hR : g_rn S.2.2 = r at *
  have x2 : nI (r / 65536) - nI (r / 65536) / nI 8 * nI 8 = nI (r / 65536 % 8) := pk_rem (by omega) (by decide) (by decide)
  have x3 : nI (r / 65536) / nI 8 = nI (r / 65536 / 8) := pk_div (by omega) (by decide) (by decide)
  have x4 : nI (r / 65536 / 8) - nI (r / 65536 / 8) / nI 2576 * nI 2576 = nI (r / 65536 / 8 % 2576) := pk_rem (by omega) (by decide) (by decide)
  have x5 : nI (r / 65536) - nI (r / 65536) / nI 4 * nI 4 = nI (r / 65536 % 4) := pk_rem (by omega) (by decide) (by decide)
  have x6 : nI (r / 65536 / 8) - nI (r / 65536 / 8) / nI 5 * nI 5 = nI (r / 65536 / 8 % 5) := pk_rem (by omega) (by decide) (by decide)
  have m4 : r / 65536 % 4 < 4 := Nat.mod_lt _ (by decide)
  have m5 : r / 65536 / 8 % 5 < 5 := Nat.mod_lt _ (by decide)
  have mD : r / 65536 / 8 % 2576 < 2576 := Nat.mod_lt _ (by decide)
  have m8 : r / 65536 % 8 < 8 := Nat.mod_lt _ (by decide)
  refine am_step _ _ _ (b_M_drift_25 ?_)
  rw [e1, e2, x0, x2, x3, x4, x5, x6, lN_i]
  have hS2 : m_S (am_sr I 1470 (am_u1 (I 1470) (am_un (nI 121)) (nI r)) 1470) 0 (S.1, S.2.1, r) := by
    rw [am_sr_at]
    exact hS.put121
  have hT2 : vT (am_sr I 1470 (am_u1 (I 1470) (am_un (nI 121)) (nI r))) := hT.fr (fun b b1 b2 => am_sr_off _ _ (by omega)) (fun b b1 b2 => am_sr_off _ _ (by omega)) (by rw [am_sr_off _ _ (by decide)])
  refine ⟨by decide, by decide, fun q => ?_, fun q => ?_⟩
  · have q : nI (r / 65536 % 8) = nI 0 := q
    rw [nI_eq (by omega) (by decide)] at q
    rw [t1 q] at h
    refine s_dodecad hd hT2 mD ?_
    rw [dod_eq]
    refine ⟨_, rfl, am_step _ _ _ (b_M_drift_90 ⟨by decide, am_step _ _ _ (b_M_drift_109 (h _ _ _ ?_ (fun b b1 b2 => ?_)))⟩)⟩
    · rw [am_sr_at]
      exact hS2.put120
    · rw [am_sr_off _ _ b1, am_sr_off _ _ b1]
  · have q : ¬ r / 65536 % 8 = 0 := fun e => q (by rw [e]; rfl)
    rw [t2 q] at h
    refine s_doubles hd m4 m5 hS2 ok.1 (fun J h1 h2 => ⟨rfl, am_step _ _ _ (b_M_drift_109 (h _ _ _ h1 (fun b b1 b2 => ?_)))⟩)
    rw [h2 b b1 b2, am_sr_off _ _ b1]
/-- a turn at random of the model -/
theorem s_Mturnb {S : a_S} {c k w5 : Int32} {w3 : Int64} (hd : 2 ≤ d) (hT : vT I) (ok : a_ok S) (hS : m_S (I 1470) 0 S) (h : ∀ J (w : Int64) (y : Int32), m_S (J 1470) 0 (g_tr S) → (∀ b, ¬ b = 1470 → ¬ b = 1479 → J b = I b) → am_St d k_M_drift M0 K 16 [some (.ref 1469), some (.int c), some (.int (k + nI 1)), some (.long w), none, some (.int y)] [] (am_st J Lg rr n)) : am_St d k_M_drift M0 K 25 [some (.ref 1469), some (.int c), some (.int k), some (.long w3), none, some (.int w5)] [] (am_st I Lg rr n) := by
  have hr := ok.2.2
  have e1 : I 1470 (am_un (nI 121)) = nI S.2.2 := hS.2.2
  have big : S.2.2 * 1103515245 + 12345 < 2 ^ 63 := by omega
  have e2 : (((nI S.2.2).toInt64 * lN 1103515245) + lN 12345) - (((nI S.2.2).toInt64 * lN 1103515245) + lN 12345) / lN 2147483648 * lN 2147483648 = lN (g_rn S.2.2) := by
    rw [i2l_n hr, lN_mul, lN_add, lN_rem big (by decide) (by decide)]
    rfl
  have r2 := rn_lt S.2.2
  have x0 : (lN (g_rn S.2.2) / lN 65536).toInt32 = nI (g_rn S.2.2 / 65536) := by rw [lN_div (by omega) (by decide) (by decide), lN_i]
  have t1 := fun q => @g_tr_1 S q
  have t2 := fun q => @g_tr_2 S q
  generalize hR : g_rn S.2.2 = r at *
  have x2 : nI (r / 65536) - nI (r / 65536) / nI 8 * nI 8 = nI (r / 65536 % 8) := pk_rem (by omega) (by decide) (by decide)
  have x3 : nI (r / 65536) / nI 8 = nI (r / 65536 / 8) := pk_div (by omega) (by decide) (by decide)
  have x4 : nI (r / 65536 / 8) - nI (r / 65536 / 8) / nI 2576 * nI 2576 = nI (r / 65536 / 8 % 2576) := pk_rem (by omega) (by decide) (by decide)
  have x5 : nI (r / 65536) - nI (r / 65536) / nI 4 * nI 4 = nI (r / 65536 % 4) := pk_rem (by omega) (by decide) (by decide)
  have x6 : nI (r / 65536 / 8) - nI (r / 65536 / 8) / nI 5 * nI 5 = nI (r / 65536 / 8 % 5) := pk_rem (by omega) (by decide) (by decide)
  have m4 : r / 65536 % 4 < 4 := Nat.mod_lt _ (by decide)
  have m5 : r / 65536 / 8 % 5 < 5 := Nat.mod_lt _ (by decide)
  have mD : r / 65536 / 8 % 2576 < 2576 := Nat.mod_lt _ (by decide)
  have m8 : r / 65536 % 8 < 8 := Nat.mod_lt _ (by decide)
  refine am_step _ _ _ (b_M_drift_25b ?_)
  rw [e1, e2, x0, x2, x3, x4, x5, x6, lN_i]
  have hS2 : m_S (am_sr I 1470 (am_u1 (I 1470) (am_un (nI 121)) (nI r)) 1470) 0 (S.1, S.2.1, r) := by
    rw [am_sr_at]
    exact hS.put121
  have hT2 : vT (am_sr I 1470 (am_u1 (I 1470) (am_un (nI 121)) (nI r))) := hT.fr (fun b b1 b2 => am_sr_off _ _ (by omega)) (fun b b1 b2 => am_sr_off _ _ (by omega)) (by rw [am_sr_off _ _ (by decide)])
  refine ⟨by decide, by decide, fun q => ?_, fun q => ?_⟩
  · have q : nI (r / 65536 % 8) = nI 0 := q
    rw [nI_eq (by omega) (by decide)] at q
    rw [t1 q] at h
    refine s_dodecad hd hT2 mD ?_
    rw [dod_eq]
    refine ⟨_, rfl, am_step _ _ _ (b_M_drift_90 ⟨by decide, am_step _ _ _ (b_M_drift_109 (h _ _ _ ?_ (fun b b1 b2 => ?_)))⟩)⟩
    · rw [am_sr_at]
      exact hS2.put120
    · rw [am_sr_off _ _ b1, am_sr_off _ _ b1]
  · have q : ¬ r / 65536 % 8 = 0 := fun e => q (by rw [e]; rfl)
    rw [t2 q] at h
    refine s_doubles hd m4 m5 hS2 ok.1 (fun J h1 h2 => ⟨rfl, am_step _ _ _ (b_M_drift_109 (h _ _ _ h1 (fun b b1 b2 => ?_)))⟩)
    rw [h2 b b1 b2, am_sr_off _ _ b1]
theorem s_Xdrift {now : a_S} {us c : Nat} {ks : Nat → a_S} (hd : 4 ≤ d) (hT : vT I) (ok : a_ok now) (hks : ∀ k, k < us → a_ok (ks k)) (hc : c_H I rr 1336 1337 1344 1345 now us ks) (h1 : 1 ≤ c) (h2 : c ≤ 40) (h : ∀ J rr', c_H J rr' 1336 1337 1344 1345 (g_itr (now, us, ks) c).1 (g_itr (now, us, ks) c).2.1 (g_itr (now, us, ks) c).2.2 → (∀ b, ¬ (1336 ≤ b ∧ b ≤ 1386) → ¬ b = 1468 → J b = I b) → (∀ b, ¬ b = 1344 → rr' b = rr b) → K (some (.int (nI (g_itr (now, us, ks) c).1.2.1))) (am_st J Lg rr' n)) : am_AC d k_X_drift [.ref 12, .int (nI c)] (am_st I Lg rr n) K := by
  obtain ⟨d, rfl, hd1⟩ := s_up hd
  have key : ∀ k, k ≤ c → ∀ J rr', c_H J rr' 1336 1337 1344 1345 (g_itr (now, us, ks) k).1 (g_itr (now, us, ks) k).2.1 (g_itr (now, us, ks) k).2.2 → (∀ b, ¬ (1336 ≤ b ∧ b ≤ 1386) → ¬ b = 1468 → J b = I b) → (∀ b, ¬ b = 1344 → rr' b = rr b) → am_St d k_X_drift (am_st I Lg rr n) K 15 [some (.ref 12), some (.int (nI c)), some (.int (nI k))] [] (am_st J Lg rr' n) := by
    refine lp_up _ (fun k hk ih => ?_) ?_
    · intro J rr' hJ hb hr
      obtain ⟨o1, o2, o3⟩ := itr_ok (T := (now, us, ks)) ok hc.2.2.1 hks k
      rw [itr_s] at ih
      generalize hT2 : g_itr (now, us, ks) k = T at *
      refine am_step _ _ _ (b_X_drift_15 ⟨fun _ => s_keep (by omega) hJ (fun J2 rr2 g1 g2 g3 g4 => ⟨rfl, am_step _ _ _ (b_X_drift_27 (s_turnAtRandom (by omega) ?_ o1 g1.1 (fun J3 e1 e2 => ⟨rfl, am_step _ _ _ (b_X_drift_38 ?_)⟩)))⟩), fun q => absurd (nI_lt hk (by omega)) q⟩)
      · exact hT.fr (fun b b1 b2 => by rw [g2 b (by omega) (by omega), hb b (by omega) (by omega)]) (fun b b1 b2 => by rw [g3 b (by omega), hb b (by omega) (by omega)]) (by rw [g3 1469 (by omega), hb 1469 (by omega) (by omega)])
      · rw [nI_add]
        refine ih J3 rr2 ?_ (fun b b1 b2 => ?_) (fun b b1 => by rw [g4 b b1, hr b b1])
        · obtain ⟨q1, q2, q3, π, q4, q5, q6⟩ := g1
          refine ⟨e1, by rw [e2 1336 (by omega) (by omega)]; exact q2, q3, π, q4, q5, fun j hj => (q6 j hj).fr fun b b1 b2 => ?_⟩
          have hj2 : j < g_ku T.2.1 := hj
          have := (q4 j (by omega)).1
          exact e2 b (by omega) (by omega)
        · rw [e2 b (by omega) b2]
          by_cases c1 : b < 1345
          · rw [g2 b c1 (by omega), hb b b1 b2]
          · rw [g3 b (by omega), hb b b1 b2]
    · intro J rr' hJ hb hr
      refine am_step _ _ _ (b_X_drift_15 ⟨fun q => absurd q (nI_nlt (Nat.le_refl _) (by omega)), fun _ => ?_⟩)
      rw [hJ.1.2.1]
      exact h J rr' hJ hb hr
  refine am_in _ _ _ (am_step _ _ _ (b_X_drift_0 ⟨fun q => ?_, fun _ => ⟨fun q => ?_, fun _ => key 0 (Nat.zero_le _) I rr hc (fun _ _ _ => rfl) (fun _ _ => rfl)⟩⟩))
  · exact absurd q (nI_nlt h1 (by omega))
  · exact absurd q (nI_nlt h2 (by omega))
theorem s_Mdrift {now : a_S} {us c : Nat} {ks : Nat → a_S} (hd : 3 ≤ d) (hT : vT I) (ok : a_ok now) (hu : us ≤ 6) (hks : ∀ k, k < us → a_ok (ks k)) (hm : m_H (I 1470) (I 1489) now us ks) (h28 : I 1469 28 = nI us) (h1 : 1 ≤ c) (h2 : c ≤ 40) (h : ∀ J, m_H (J 1470) (J 1489) (g_itr (now, us, ks) c).1 (g_itr (now, us, ks) c).2.1 (g_itr (now, us, ks) c).2.2 → J 1469 28 = nI (g_itr (now, us, ks) c).2.1 → (∀ j, ¬ j = 28 → J 1469 j = I 1469 j) → (∀ b, ¬ b = 1469 → ¬ b = 1470 → ¬ b = 1479 → ¬ b = 1489 → J b = I b) → K (some (.int (nI (g_itr (now, us, ks) c).1.2.1))) (am_st J Lg rr n)) : am_AC d k_M_drift [.ref 1469, .int (nI c)] (am_st I Lg rr n) K := by
  obtain ⟨d, rfl, hd1⟩ := s_up hd
  have key : ∀ k, k ≤ c → 1 ≤ k → ∀ J (w : Int64) (y : Int32), m_H (J 1470) (J 1489) (g_itr (now, us, ks) k).1 (g_itr (now, us, ks) k).2.1 (g_itr (now, us, ks) k).2.2 → J 1469 28 = nI (g_itr (now, us, ks) k).2.1 → (∀ j, ¬ j = 28 → J 1469 j = I 1469 j) → (∀ b, ¬ b = 1469 → ¬ b = 1470 → ¬ b = 1479 → ¬ b = 1489 → J b = I b) → am_St d k_M_drift (am_st I Lg rr n) K 16 [some (.ref 1469), some (.int (nI c)), some (.int (nI k)), some (.long w), none, some (.int y)] [] (am_st J Lg rr n) := by
    refine lp_up _ (fun k hk ih => ?_) ?_
    · intro hk1 J w y hJ hJ2 hJ3 hJ4
      obtain ⟨o1, o2, o3⟩ := itr_ok (T := (now, us, ks)) ok hu hks k
      rw [itr_s] at ih
      generalize hT2 : g_itr (now, us, ks) k = T at *
      refine am_step _ _ _ (b_M_drift_16b ⟨fun _ => s_notes (by omega) o2 hJ hJ2 (fun J2 g1 g2 g3 g4 => ⟨rfl, s_Mturnb (by omega) ?_ o1 g1.1 (fun J3 w2 y2 e1 e2 => ?_)⟩), fun q => absurd (nI_lt hk (by omega)) q⟩)
      · exact hT.fr (fun b b1 b2 => by rw [g4 b (by omega) (by omega), hJ4 b (by omega) (by omega) (by omega) (by omega)]) (fun b b1 b2 => by rw [g4 b (by omega) (by omega), hJ4 b (by omega) (by omega) (by omega) (by omega)]) (by rw [g3 3 (by decide), hJ3 3 (by decide)])
      · rw [nI_add]
        refine ih (by omega) J3 w2 y2 ⟨e1, ?_⟩ ?_ (fun j hj => ?_) (fun b b1 b2 b3 b4 => ?_)
        · rw [e2 1489 (by decide) (by decide)]
          exact g1.2
        · rw [e2 1469 (by decide) (by decide)]
          exact g2
        · rw [e2 1469 (by decide) (by decide), g3 j hj, hJ3 j hj]
        · rw [e2 b b2 b3, g4 b b4 b1, hJ4 b b1 b2 b3 b4]
    · intro _ J w y hJ hJ2 hJ3 hJ4
      refine am_step _ _ _ (b_M_drift_16b ⟨fun q => absurd q (nI_nlt (Nat.le_refl _) (by omega)), fun _ => ⟨by decide, ?_⟩⟩)
      rw [show J 1470 (am_un (nI 120)) = _ from hJ.1.2.1]
      exact h J hJ hJ2 hJ3 hJ4
  refine am_in _ _ _ (am_step _ _ _ (b_M_drift_0 (s_in (by omega) ⟨_, rfl, am_step _ _ _ (b_M_drift_9 ?_)⟩)))
  rw [m_in_n (by omega) (by decide) (by decide), if_pos ⟨h1, h2⟩]
  refine ⟨fun q => absurd q (by decide), fun _ => am_step _ _ _ (b_M_drift_16 ⟨fun _ => s_notes (by omega) hu hm h28 (fun J2 g1 g2 g3 g4 => ⟨rfl, s_Mturn (by omega) ?_ ok g1.1 (fun J3 w2 y2 e1 e2 => ?_)⟩), fun q => absurd (nI_lt (show 0 < c by omega) (by omega)) q⟩)⟩
  · exact hT.fr (fun b b1 b2 => g4 b (by omega) (by omega)) (fun b b1 b2 => g4 b (by omega) (by omega)) (g3 3 (by decide))
  · rw [nI_add]
    refine key 1 h1 (Nat.le_refl _) J3 w2 y2 ⟨e1, ?_⟩ ?_ (fun j hj => ?_) (fun b b1 b2 b3 b4 => ?_)
    · rw [e2 1489 (by decide) (by decide)]
      exact g1.2
    · rw [e2 1469 (by decide) (by decide)]
      exact g2
    · rw [e2 1469 (by decide) (by decide), g3 j hj]
    · rw [e2 b b2 b3, g4 b b4 b1]
theorem op_drift (hG : g_fr G) (a0 : Int32) : lw_Op (vV G) k_X_drift k_M_drift [.int a0] := by
  intro I Lg rr n hV
  have hT := hV.1
  obtain ⟨now, us, ks, ok, hks, hc, hm, h28⟩ := hV.2.1
  have hu := hc.2.2.1
  rcases rng_cases2 a0 (lo := 1) (hi := 40) (by decide) (by decide) with ⟨c, c1, c2, rfl, c3, c4⟩ | ⟨c1, c3, c4⟩
  · obtain ⟨o1, o2, o3⟩ := itr_ok (T := (now, us, ks)) ok hu hks c
    refine s_Xdrift (by decide) hT ok hks hc c1 c2 (fun J rr' g1 g2 g3 => ⟨_, rfl, J, Lg, rr', rfl, g2 0 (by omega) (by omega), ?_⟩)
    have e69 : J 1470 = I 1470 := g2 1470 (by omega) (by omega)
    have e88 : J 1489 = I 1489 := g2 1489 (by omega) (by omega)
    have e68 : J 1469 = I 1469 := g2 1469 (by omega) (by omega)
    refine s_Mdrift (by decide) (hT.fr (fun b b1 b2 => g2 b (by omega) (by omega)) (fun b b1 b2 => g2 b (by omega) (by omega)) (by rw [e68])) ok hu hks (by rw [e69, e88]; exact hm) (by rw [e68]; exact h28) c1 c2 (fun J2 m1 m2 m3 m4 => ⟨_, rfl, J2, Lg, rr', rfl, rfl, hV.hist3 hG ⟨_, _, _, o1, o3, g1.fr2 (fun b b1 b2 => m4 b (by omega) (by omega) (by omega) (by omega)) rfl, m1, m2⟩ (fun b b1 b2 b3 b4 b5 b6 b7 => ?_) (fun j hj => ?_) g3 ?_ ?_⟩)
    · rw [m4 b b2 b3 (by omega) b4, g2 b b1 b5]
    · rw [m3 j hj, e68]
    · rw [m4 1438 (by omega) (by omega) (by omega) (by omega), g2 1438 (by omega) (by omega)]
    · rw [m4 1439 (by omega) (by omega) (by omega) (by omega), g2 1439 (by omega) (by omega)]
  · have mdl : ∀ K : Option Value → am_M → Prop, K (some (.int (am_k (-1)))) (am_st I Lg rr n) → am_AC 100 k_M_drift [.ref 1469, .int a0] (am_st I Lg rr n) K := fun K hK => by
      refine am_in _ _ _ (am_step _ _ _ (b_M_drift_0 (s_in (by decide) ⟨_, rfl, am_step _ _ _ (b_M_drift_9 ?_)⟩)))
      rw [c4]
      exact ⟨fun _ => hK, fun q => absurd rfl q⟩
    refine am_in _ _ _ (am_step _ _ _ (b_X_drift_0 ⟨fun q => ⟨_, rfl, I, Lg, rr, rfl, rfl, mdl _ ⟨_, rfl, I, Lg, rr, rfl, rfl, hV⟩⟩, fun q => ⟨fun q2 => ⟨_, rfl, I, Lg, rr, rfl, rfl, mdl _ ⟨_, rfl, I, Lg, rr, rfl, rfl, hV⟩⟩, fun q2 => ?_⟩⟩))
    exact absurd c1 (fun h => h.elim q q2)
end D2
