/-! THE OPERATION copy -/
section CO
variable {G : (Nat → Nat → Int32) → Prop}
theorem cpy_at (f g : Nat → Int64) (sp dp m k : Nat) : am_cpy f g sp dp m k = if dp ≤ k ∧ k < dp + m then f (sp + (k - dp)) else g k := by
  unfold am_cpy
  by_cases h1 : dp ≤ k
  · by_cases h2 : k < dp + m
    · rw [Nat.ble_eq_true_of_le h1, Nat.ble_eq_true_of_le (show k + 1 ≤ dp + m from h2), if_pos ⟨h1, h2⟩]
      rfl
    · rw [nb_hi (show dp + m < k + 1 by omega), Bool.and_false, if_neg (fun q => h2 q.2)]
      rfl
  · rw [nb_hi (show k < dp by omega), Bool.false_and, if_neg (fun q => h1 q.1)]
    rfl
/-- what copy asks of its numbers -/
def g_cin (szf szt : Nat) (i j m : Int32) : Prop := 0 ≤ m.toInt ∧ 0 ≤ i.toInt ∧ 0 ≤ j.toInt ∧ i.toInt + m.toInt ≤ szf ∧ j.toInt + m.toInt ≤ szt
theorem add_i64 {x y : Int32} (hx : 0 ≤ x.toInt) (hy : 0 ≤ y.toInt) : (x.toInt64 + y.toInt64).toInt = x.toInt + y.toInt := by
  have h1 := Int32.toInt_lt x
  have h2 := Int32.toInt_lt y
  rw [Int64.toInt_add, Int32.toInt_toInt64, Int32.toInt_toInt64]
  refine Int.bmod_eq_of_le ?_ ?_ <;> omega
theorem s_isInside2 {d : Nat} {K : Option Value → am_M → Prop} {I : Nat → Nat → Int32} {Lg : Nat → Nat → Int64} {rr : Nat → Nat → Option Nat} {n s sz : Nat} {i m : Int32} (hd : 1 ≤ d) (hs : s < 4) (t1 : sz ≤ 32) (t2 : I 1464 s = nI sz) (h1 : 0 ≤ i.toInt ∧ 0 ≤ m.toInt ∧ i.toInt + m.toInt ≤ sz → K (some (.int (nI 1))) (am_st I Lg rr n)) (h2 : ¬ (0 ≤ i.toInt ∧ 0 ≤ m.toInt ∧ i.toInt + m.toInt ≤ sz) → K (some (.int (nI 0))) (am_st I Lg rr n)) : am_AC d k_Sh_isInside [.ref 1457, .int (nI s), .int i, .int m] (am_st I Lg rr n) K := by
  obtain ⟨d, rfl, hd1⟩ := s_up hd
  have es : am_un (nI s) = s := n_un (by omega)
  refine am_in _ _ _ (am_step _ _ _ (b_Sh_isInside_0 ⟨fun q => h2 ?_, fun q => ⟨fun q2 => h2 ?_, fun q2 => ?_⟩⟩))
  · rw [neg_0] at q
    omega
  · rw [neg_0] at q2
    omega
  · rw [neg_0] at q q2
    have es2 : (nI sz - m).toInt = sz - m.toInt := sub_toInt t1 (by omega)
    rw [es, t2]
    refine ⟨hs, fun q3 => h2 ?_, fun q3 => h1 ?_⟩
    · rw [fa0_lt, es2] at q3
      omega
    · rw [fa0_lt, es2] at q3
      omega
theorem op_copy (hG : g_fr G) (a0 a1 a2 a3 a4 : Int32) : lw_Op (vV G) k_X_copy k_M_copy [.int a0, .int a1, .int a2, .int a3, .int a4] := by
  intro I Lg rr n hV
  obtain ⟨la, sz, v, hS⟩ := hV.2.2.2.2.1
  have hW : sh_W I Lg la sz v := hS
  have bad : ∀ K : Option Value → am_M → Prop, (m_rng a0 0 3 = nI 0 ∨ (m_rng a0 0 3 = nI 1 ∧ m_rng a2 0 3 = nI 0)) → K (some (.int (am_k (-1)))) (am_st I Lg rr n) → am_AC 100 k_M_copy [.ref 1469, .int a0, .int a1, .int a2, .int a3, .int a4] (am_st I Lg rr n) K := by
    intro K hc hK
    refine am_in _ _ _ (am_step _ _ _ (b_M_copy_0 (s_isSheet (by decide) ⟨_, rfl, am_step _ _ _ (b_M_copy_4 ?_)⟩)))
    rcases hc with hc | ⟨hc, hc2⟩
    · rw [hc]
      exact ⟨fun _ => hK, fun q => absurd rfl q⟩
    · rw [hc]
      refine ⟨fun q => absurd q (by decide), fun _ => s_isSheet (by decide) ⟨_, rfl, am_step _ _ _ (b_M_copy_11 ?_)⟩⟩
      rw [hc2]
      exact ⟨fun _ => hK, fun q => absurd rfl q⟩
  rcases rng_cases a0 (N := 4) (by decide) (by decide) with ⟨s, s1, rfl, s3, s4, s5⟩ | ⟨s3, s4, s5⟩
  · rcases rng_cases a2 (N := 4) (by decide) (by decide) with ⟨t, t1, rfl, t3, t4, t5⟩ | ⟨t3, t4, t5⟩
    · have es : am_un (nI s) = s := n_un (by omega)
      have et : am_un (nI t) = t := n_un (by omega)
      obtain ⟨u1, u2, u3, u4, u5⟩ := hW s s1
      obtain ⟨w1, w2, w3, w4, w5⟩ := hW t t1
      -- the model
      have pre : ∀ Lg, ∀ K : Option Value → am_M → Prop, ((la s = 4 ∨ la t = 4) → K (some (.int (am_k (-11)))) (am_st I Lg rr n)) → (la s < 4 → la t < 4 → ¬ la s = la t → K (some (.int (am_k (-12)))) (am_st I Lg rr n)) → (la s < 4 → la t < 4 → la s = la t → ¬ g_cin (sz s) (sz t) a1 a3 a4 → K (some (.int (am_k (-13)))) (am_st I Lg rr n)) → (la s < 4 → la t < 4 → la s = la t → g_cin (sz s) (sz t) a1 a3 a4 → am_St 99 k_M_copy (am_st I Lg rr n) K 110 [some (.ref 1469), some (.int (nI s)), some (.int a1), some (.int (nI t)), some (.int a3), some (.int a4), some (.int (nI 0))] [] (am_st I Lg rr n)) → am_AC 100 k_M_copy [.ref 1469, .int (nI s), .int a1, .int (nI t), .int a3, .int a4] (am_st I Lg rr n) K := by
        intro Lg K h11 h12 h13 h0
        refine am_in _ _ _ (am_step _ _ _ (b_M_copy_0 (s_isSheet (by decide) ⟨_, rfl, am_step _ _ _ (b_M_copy_4 ?_)⟩)))
        rw [s4]
        refine ⟨fun q => absurd q (by decide), fun _ => s_isSheet (by decide) ⟨_, rfl, am_step _ _ _ (b_M_copy_11 ?_)⟩⟩
        rw [t4, es, et]
        refine ⟨fun q => absurd q (by decide), fun _ => ⟨s1, ?_⟩⟩
        rcases u5 with ⟨a, b, c⟩ | ⟨a, b, c⟩
        · rw [c]
          exact ⟨fun _ => h11 (Or.inl a), fun q => absurd (show am_k (-1) < 0 by decide) q⟩
        · rw [c]
          refine ⟨fun q => absurd q (show ¬ nI (la s) < nI 0 from nI_nlt (Nat.zero_le _) (by omega)), fun _ => ⟨t1, ?_⟩⟩
          rcases w5 with ⟨a', b', c'⟩ | ⟨a', b', c'⟩
          · rw [c']
            exact ⟨fun _ => h11 (Or.inr a'), fun q => absurd (show am_k (-1) < 0 by decide) q⟩
          · rw [c']
            refine ⟨fun q => absurd q (show ¬ nI (la t) < nI 0 from nI_nlt (Nat.zero_le _) (by omega)), fun _ => ⟨s1, t1, fun q => ?_, fun q => h12 a a' (fun e => q (by rw [e]))⟩⟩
            rw [nI_eq (by omega) (by omega)] at q
            refine ⟨fun q2 => h13 a a' q ?_, fun q2 => ⟨fun q3 => h13 a a' q ?_, fun q3 => ⟨fun q4 => h13 a a' q ?_, fun q4 => ?_⟩⟩⟩
            · rw [neg_0] at q2
              exact fun e => by have := e.1; omega
            · rw [neg_0] at q3
              exact fun e => by have := e.2.1; omega
            · rw [neg_0] at q4
              exact fun e => by have := e.2.2.1; omega
            · rw [neg_0] at q2 q3 q4
              rw [u3, w3]
              refine ⟨s1, fun q5 => h13 a a' q ?_, fun q5 => ⟨t1, fun q6 => h13 a a' q ?_, fun q6 => h0 a a' q ?_⟩⟩
              · rw [lg_cmp_gt, Int64.lt_iff_toInt_lt, add_i64 (by omega) (by omega), Int32.toInt_toInt64, nI_toInt (by omega)] at q5
                exact fun e => by have := e.2.2.2.1; omega
              · rw [lg_cmp_gt, Int64.lt_iff_toInt_lt, add_i64 (by omega) (by omega), Int32.toInt_toInt64, nI_toInt (by omega)] at q6
                exact fun e => by have := e.2.2.2.2; omega
              · rw [lg_cmp_gt, Int64.lt_iff_toInt_lt, add_i64 (by omega) (by omega), Int32.toInt_toInt64, nI_toInt (by omega)] at q5 q6
                exact ⟨by omega, by omega, by omega, by omega, by omega⟩
      refine am_in _ _ _ (am_step _ _ _ (b_X_copy_0 (s_isOutside (by decide) ⟨_, rfl, am_step _ _ _ (b_X_copy_5 ?_)⟩)))
      rw [s3]
      refine ⟨fun _ => s_isOutside (by decide) ⟨_, rfl, am_step _ _ _ (b_X_copy_13 ?_)⟩, fun q => absurd rfl q⟩
      rw [t3]
      refine ⟨fun _ => am_in _ _ _ (am_step _ _ _ (b_Sh_transfer_0 ?_)), fun q => absurd rfl q⟩
      rw [es, et]
      refine ⟨s1, fun q => ?_, fun q => ⟨t1, fun q2 => ?_, fun q2 => ⟨s1, t1, fun q3 => ?_, fun q3 => ?_⟩⟩⟩
      · have a : la s = 4 := by
          rcases u5 with ⟨a, b, c⟩ | ⟨a, b, c⟩
          · exact a
          · rw [b] at q
            exact absurd q (k_ne_4 a)
        exact ⟨_, rfl, am_step _ _ _ (b_X_copy_32 ⟨_, rfl, I, Lg, rr, rfl, rfl, pre Lg _ (fun _ => ⟨_, rfl, I, Lg, rr, rfl, rfl, hV⟩) (fun q => by omega) (fun q => by omega) (fun q => by omega)⟩)⟩
      · have a : la t = 4 := by
          rcases w5 with ⟨a, b, c⟩ | ⟨a, b, c⟩
          · exact a
          · rw [b] at q2
            exact absurd q2 (k_ne_4 a)
        exact ⟨_, rfl, am_step _ _ _ (b_X_copy_32 ⟨_, rfl, I, Lg, rr, rfl, rfl, pre Lg _ (fun _ => ⟨_, rfl, I, Lg, rr, rfl, rfl, hV⟩) (fun _ q => by omega) (fun _ q => by omega) (fun _ q => by omega)⟩)⟩
      · obtain ⟨a, b⟩ : la s < 4 ∧ I 1463 s = nI (la s) := by
          rcases u5 with ⟨a, b, c⟩ | ⟨a, b, c⟩
          · exact absurd b q
          · exact ⟨a, b⟩
        obtain ⟨a', b'⟩ : la t < 4 ∧ I 1463 t = nI (la t) := by
          rcases w5 with ⟨a, b, c⟩ | ⟨a, b, c⟩
          · exact absurd b q2
          · exact ⟨a, b⟩
        rw [b, b', nI_eq (by omega) (by omega)] at q3
        have no : ¬ g_cin (sz s) (sz t) a1 a3 a4 → am_qi (fun x1 M1 => am_St 99 k_X_copy (am_st I Lg rr n) (am_qi fun x M1 => ∃ I1 Lg1 rr1, M1 = am_st I1 Lg1 rr1 n ∧ I1 0 = I 0 ∧ am_AC 100 k_M_copy (.ref 1469 :: [.int (nI s), .int a1, .int (nI t), .int a3, .int a4]) M1 (am_qi fun y M2 => ∃ I2 Lg2 rr2, M2 = am_st I2 Lg2 rr2 n ∧ y = x ∧ vV G I2 Lg2 rr2 n)) 32 [some (.ref 12), some (.int (nI s)), some (.int a1), some (.int (nI t)), some (.int a3), some (.int a4)] [.int x1] M1) (some (.int (am_k (-13)))) (am_st I Lg rr n) := fun hn => ⟨_, rfl, am_step _ _ _ (b_X_copy_32 ⟨_, rfl, I, Lg, rr, rfl, rfl, pre Lg _ (fun q => by omega) (fun _ _ q => absurd q3 q) (fun _ _ _ _ => ⟨_, rfl, I, Lg, rr, rfl, rfl, hV⟩) (fun _ _ _ q => absurd q hn)⟩)⟩
        refine s_isInside2 (by decide) s1 u1 u2 (fun g1 => ⟨_, rfl, am_step _ _ _ (b_Sh_transfer_51 ⟨fun q => absurd q (by decide), fun _ => s_isInside2 (by decide) t1 w1 w2 (fun g2 => ⟨_, rfl, am_step _ _ _ (b_Sh_transfer_63 ⟨fun q => absurd q (by decide), fun _ => ?_⟩)⟩) (fun g2 => ⟨_, rfl, am_step _ _ _ (b_Sh_transfer_63 ⟨fun _ => no (fun e => g2 ⟨e.2.2.1, e.1, e.2.2.2.2⟩), fun q => absurd rfl q⟩)⟩)⟩)⟩) (fun g1 => ⟨_, rfl, am_step _ _ _ (b_Sh_transfer_51 ⟨fun _ => no (fun e => g1 ⟨e.2.1, e.1, e.2.2.2.1⟩), fun q => absurd rfl q⟩)⟩)
        obtain ⟨i, hi, ei⟩ : ∃ i, i < 2 ^ 31 ∧ a1 = nI i := ⟨_, (i_nat g1.1).2, (i_nat g1.1).1⟩
        obtain ⟨j, hj, ej⟩ : ∃ j, j < 2 ^ 31 ∧ a3 = nI j := ⟨_, (i_nat g2.1).2, (i_nat g2.1).1⟩
        obtain ⟨m, hm, em⟩ : ∃ m, m < 2 ^ 31 ∧ a4 = nI m := ⟨_, (i_nat g1.2.1).2, (i_nat g1.2.1).1⟩
        subst ei
        subst ej
        subst em
        have hcin : g_cin (sz s) (sz t) (nI i) (nI j) (nI m) := ⟨g1.2.1, g1.1, g2.1, g1.2.2, g2.2.2⟩
        rw [nI_toInt hi, nI_toInt hm] at g1
        rw [nI_toInt hj, nI_toInt hm] at g2
        have e1 : am_un (nI i) = i := n_un (by omega)
        have e2 : am_un (nI j) = j := n_un (by omega)
        have e3 : am_un (nI m) = m := n_un (by omega)
        rw [es, et, e1, e2, e3]
        refine ⟨s1, am_obi (RR_1457 rr s s1) ⟨t1, am_obi (RR_1457 rr t t1) (am_gi ?_ ⟨⟨?_, ?_⟩, ⟨_, rfl, am_step _ _ _ (b_X_copy_32 ⟨_, rfl, I, _, rr, rfl, rfl, pre _ _ (fun q => by omega) (fun _ _ q => absurd q3 q) (fun _ _ _ q => absurd hcin q) (fun _ _ _ _ => ?_)⟩)⟩⟩)⟩⟩
        · exact am_ba (am_ba (am_ba (am_ba (oS_of (rows_sh s s1).1 (by omega)) (oS_of (rows_sh t t1).1 (by omega))) (Nat.ble_eq_true_of_le (by omega))) (Nat.ble_eq_true_of_le (by omega))) rfl
        · rw [(rows_sh s s1).2]
          omega
        · rw [(rows_sh t t1).2]
          omega
        · -- the model copies twice
          generalize hL1 : am_sr Lg (1459 + t) (am_cpy (Lg (1459 + s)) (Lg (1459 + t)) i j m) = L1
          have l93 : L1 1494 = Lg 1494 := by rw [← hL1, am_sr_off _ _ (by omega)]
          have k2 : ∀ k, k ≤ m → ∀ f g, (∀ x, x < m → f x = Lg 1494 (32 * s + i + x)) → (∀ x, g x = if 32 * t + j ≤ x ∧ x < 32 * t + j + k then Lg 1494 (32 * s + i + (x - (32 * t + j))) else Lg 1494 x) → am_St 99 k_M_copy (am_st I L1 rr n) (am_qi fun y M2 => ∃ I2 Lg2 rr2, M2 = am_st I2 Lg2 rr2 n ∧ y = nI m ∧ vV G I2 Lg2 rr2 n) 147 [some (.ref 1469), some (.int (nI s)), some (.int (nI i)), some (.int (nI t)), some (.int (nI j)), some (.int (nI m)), some (.int (nI k))] [] (am_st I (am_sr (am_sr L1 1495 f) 1494 g) rr n) := by
            refine lp_up _ (fun k hk ih => ?_) ?_
            · intro f g hf hg
              have ek : am_un (nI k) = k := n_un (by omega)
              have ei : am_un (nI 32 * nI t + nI j + nI k) = 32 * t + j + k := by
                rw [pk_mul, nI_add, nI_add]
                exact n_un (by omega)
              refine am_step _ _ _ (b_M_copy_147 ⟨fun _ => ?_, fun q => absurd (nI_lt hk (by omega)) q⟩)
              rw [ek, ei, am_sr_at, am_sr_sr, am_sr_off _ _ (show ¬ 1495 = 1494 by decide), am_sr_at, nI_add]
              refine ⟨by omega, by omega, ih f _ hf (fun x => ?_)⟩
              by_cases e : x = 32 * t + j + k
              · subst e
                rw [am_u1_at, if_pos (by omega), hf k hk, show 32 * t + j + k - (32 * t + j) = k by omega]
              · rw [am_u1_off _ _ e, hg x]
                by_cases e2 : 32 * t + j ≤ x ∧ x < 32 * t + j + k
                · rw [if_pos e2, if_pos (by omega)]
                · rw [if_neg e2, if_neg (by omega)]
            · intro f g hf hg
              refine am_step _ _ _ (b_M_copy_147 ⟨fun q => absurd q (nI_nlt (Nat.le_refl _) (by omega)), fun _ => ⟨_, rfl, I, _, rr, rfl, rfl, hV.sh hG (vSh.lg (s := t) (w := fun x => if j ≤ x ∧ x < j + m then v s (i + (x - j)) else v t x) hW (fun x hx hne y hy => ⟨?_, ?_⟩) (fun y hy => ⟨?_, ?_⟩)) (fun _ _ _ _ _ => rfl)⟩⟩)
              · rw [am_sr_off _ _ (by omega), am_sr_off _ _ (by omega), ← hL1, am_sr_off _ _ (by omega)]
              · rw [am_sr_at, hg, if_neg (by omega)]
              · rw [am_sr_off _ _ (by omega), am_sr_off _ _ (by omega), ← hL1, am_sr_at, cpy_at]
                by_cases e2 : j ≤ y ∧ y < j + m
                · rw [if_pos e2, if_pos e2, (u4 _ (by omega)).1]
                · rw [if_neg e2, if_neg e2, (w4 y hy).1]
              · rw [am_sr_at, hg]
                by_cases e2 : j ≤ y ∧ y < j + m
                · rw [if_pos e2, if_pos (by omega), show 32 * s + i + (32 * t + y - (32 * t + j)) = 32 * s + (i + (y - j)) by omega, (u4 _ (by omega)).2]
                · rw [if_neg e2, if_neg (by omega), (w4 y hy).2]
          have k1 : ∀ k, k ≤ m → ∀ f, (∀ x, x < k → f x = Lg 1494 (32 * s + i + x)) → am_St 99 k_M_copy (am_st I L1 rr n) (am_qi fun y M2 => ∃ I2 Lg2 rr2, M2 = am_st I2 Lg2 rr2 n ∧ y = nI m ∧ vV G I2 Lg2 rr2 n) 110 [some (.ref 1469), some (.int (nI s)), some (.int (nI i)), some (.int (nI t)), some (.int (nI j)), some (.int (nI m)), some (.int (nI k))] [] (am_st I (am_sr L1 1495 f) rr n) := by
            refine lp_up _ (fun k hk ih => ?_) ?_
            · intro f hf
              have ek : am_un (nI k) = k := n_un (by omega)
              have ei : am_un (nI 32 * nI s + nI i + nI k) = 32 * s + i + k := by
                rw [pk_mul, nI_add, nI_add]
                exact n_un (by omega)
              refine am_step _ _ _ (b_M_copy_110 ⟨fun _ => ?_, fun q => absurd (nI_lt hk (by omega)) q⟩)
              rw [ek, ei, am_sr_at, am_sr_sr, am_sr_off _ _ (show ¬ 1494 = 1495 by decide), l93, nI_add]
              refine ⟨by omega, by omega, ih _ (fun x hx => ?_)⟩
              by_cases e : x = k
              · subst e
                rw [am_u1_at]
              · rw [am_u1_off _ _ e, hf x (by omega)]
            · intro f hf
              refine am_step _ _ _ (b_M_copy_110 ⟨fun q => absurd q (nI_nlt (Nat.le_refl _) (by omega)), fun _ => ?_⟩)
              have k0 := k2 0 (Nat.zero_le _) f (Lg 1494) hf (fun x => by rw [if_neg (by omega)])
              have e9 : am_sr (am_sr L1 1495 f) 1494 (Lg 1494) = am_sr L1 1495 f := by
                funext b
                by_cases e : b = 1494
                · subst e
                  rw [am_sr_at, am_sr_off _ _ (by decide), l93]
                · rw [am_sr_off _ _ e]
              rw [e9] at k0
              exact k0
          have k0 := k1 0 (Nat.zero_le _) (L1 1495) (fun x hx => absurd hx (Nat.not_lt_zero x))
          rw [am_sr_id] at k0
          exact k0
      · obtain ⟨a, b⟩ : la s < 4 ∧ I 1463 s = nI (la s) := by
          rcases u5 with ⟨a, b, c⟩ | ⟨a, b, c⟩
          · exact absurd b q
          · exact ⟨a, b⟩
        obtain ⟨a', b'⟩ : la t < 4 ∧ I 1463 t = nI (la t) := by
          rcases w5 with ⟨a, b, c⟩ | ⟨a, b, c⟩
          · exact absurd b q2
          · exact ⟨a, b⟩
        have ne : ¬ la s = la t := fun e => q3 (by rw [b, b', e])
        exact ⟨_, rfl, am_step _ _ _ (b_X_copy_32 ⟨_, rfl, I, Lg, rr, rfl, rfl, pre Lg _ (fun q => by omega) (fun _ _ _ => ⟨_, rfl, I, Lg, rr, rfl, rfl, hV⟩) (fun _ _ q => absurd q ne) (fun _ _ q => absurd q ne)⟩)⟩
    · refine am_in _ _ _ (am_step _ _ _ (b_X_copy_0 (s_isOutside (by decide) ⟨_, rfl, am_step _ _ _ (b_X_copy_5 ?_)⟩)))
      rw [s3]
      refine ⟨fun _ => s_isOutside (by decide) ⟨_, rfl, am_step _ _ _ (b_X_copy_13 ?_)⟩, fun q => absurd rfl q⟩
      rw [t3]
      exact ⟨fun q => absurd q (by decide), fun _ => ⟨_, rfl, I, Lg, rr, rfl, rfl, bad _ (Or.inr ⟨s4, t4⟩) ⟨_, rfl, I, Lg, rr, rfl, rfl, hV⟩⟩⟩
  · refine am_in _ _ _ (am_step _ _ _ (b_X_copy_0 (s_isOutside (by decide) ⟨_, rfl, am_step _ _ _ (b_X_copy_5 ?_)⟩)))
    rw [s3]
    exact ⟨fun q => absurd q (by decide), fun _ => ⟨_, rfl, I, Lg, rr, rfl, rfl, bad _ (Or.inl s4) ⟨_, rfl, I, Lg, rr, rfl, rfl, hV⟩⟩⟩
end CO
