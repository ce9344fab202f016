/-! SHEETS: what refuses; the operations drop, sheet -/
def g_fa (la sz l : Nat) (i : Int32) (m : Nat) : Int32 := if la = 4 then am_k (-11) else if la = l then (if 0 ≤ i.toInt ∧ i.toInt + m ≤ sz then nI 0 else am_k (-13)) else am_k (-12)
/-- one sheet, on both sides -/
def sh_T (I : Nat → Nat → Int32) (la sz s : Nat) : Prop := sz ≤ 32 ∧ I 1464 s = nI sz ∧ I 1493 s = nI sz ∧ ((la = 4 ∧ I 1463 s = am_k (-4) ∧ I 1492 s = am_k (-1)) ∨ (la < 4 ∧ I 1463 s = nI la ∧ I 1492 s = nI la))
theorem RR_1457 (rr : Nat → Nat → Option Nat) : ∀ s, s < 4 → RR rr 1458 s = some (1459 + s) := fun s hs => by
  rw [RR_sh (by decide) (by decide) (by decide)]
  exact (show ∀ m, m < 4 → sh_r 1458 m = some (1459 + m) by decide +kernel) s hs
theorem rows_sh : ∀ s, s < 4 → sh_t (1459 + s) = 2 ∧ sh_n (1459 + s) = 32 := by decide +kernel
theorem neg_0 {x : Int32} : x < 0 ↔ x.toInt < 0 := fa0_lt x 0
theorem k_ne_4 {l : Nat} (h : l < 4) : ¬ nI l = am_k (-4) := (show ∀ l, l < 4 → ¬ nI l = am_k (-4) by decide +kernel) l h
theorem sub_toInt {a : Nat} {x : Int32} (ha : a ≤ 32) (h1 : 0 ≤ x.toInt) : (nI a - x).toInt = a - x.toInt := by
  have hx := Int32.toInt_lt x
  rw [Int32.toInt_sub, nI_toInt (by omega)]
  refine Int.bmod_eq_of_le ?_ ?_ <;> omega
section SF
variable {d : Nat} {K : Option Value → am_M → Prop} {I : Nat → Nat → Int32} {Lg : Nat → Nat → Int64} {rr : Nat → Nat → Option Nat} {n : Nat} {G : (Nat → Nat → Int32) → Prop}
theorem s_isInside {s m la sz : Nat} {i : Int32} (hd : 1 ≤ d) (hs : s < 4) (hm : m < 100) (hT : sh_T I la sz s) (h1 : 0 ≤ i.toInt ∧ i.toInt + m ≤ sz → K (some (.int (nI 1))) (am_st I Lg rr n)) (h2 : ¬ (0 ≤ i.toInt ∧ i.toInt + m ≤ sz) → K (some (.int (nI 0))) (am_st I Lg rr n)) : am_AC d k_Sh_isInside [.ref 1457, .int (nI s), .int i, .int (nI m)] (am_st I Lg rr n) K := by
  obtain ⟨d, rfl, hd1⟩ := s_up hd
  obtain ⟨t1, t2, t3, t4⟩ := hT
  have es : am_un (nI s) = s := n_un (by omega)
  refine am_in _ _ _ (am_step _ _ _ (b_Sh_isInside_0 ⟨fun q => h2 ?_, fun q => ⟨fun q2 => ?_, fun _ => ?_⟩⟩))
  · rw [neg_0] at q
    omega
  · exact absurd q2 (show ¬ nI m < nI 0 from nI_nlt (Nat.zero_le _) (by omega))
  · rw [neg_0] at q
    have es2 : (nI sz - nI m).toInt = sz - m := by
      rw [sub_toInt t1 (by rw [nI_toInt (by omega)]; omega), nI_toInt (by omega)]
    rw [es, t2]
    refine ⟨hs, fun q2 => h2 ?_, fun q2 => h1 ?_⟩
    · rw [fa0_lt, es2] at q2
      omega
    · rw [fa0_lt, es2] at q2
      omega
theorem s_fault {s l m la sz : Nat} {i : Int32} (hd : 2 ≤ d) (hs : s < 4) (hl : l < 4) (hm : m < 100) (hT : sh_T I la sz s) (h : K (some (.int (g_fa la sz l i m))) (am_st I Lg rr n)) : am_AC d k_Sh_fault [.ref 1457, .int (nI s), .int (nI l), .int i, .int (nI m)] (am_st I Lg rr n) K := by
  obtain ⟨d, rfl, hd1⟩ := s_up hd
  have es : am_un (nI s) = s := n_un (by omega)
  have hT2 := hT
  obtain ⟨t1, t2, t3, t4⟩ := hT2
  unfold g_fa at h
  refine am_in _ _ _ (am_step _ _ _ (b_Sh_fault_0 ?_))
  rw [es]
  rcases t4 with ⟨a1, a2, a3⟩ | ⟨a1, a2, a3⟩
  · rw [a2]
    rw [if_pos a1] at h
    exact ⟨hs, fun _ => h, fun q => absurd rfl q⟩
  · rw [a2]
    rw [if_neg (by omega)] at h
    refine ⟨hs, fun q => absurd q (k_ne_4 a1), fun _ => ⟨hs, fun q => ?_, fun q => ?_⟩⟩
    · rw [nI_eq (by omega) (by omega)] at q
      rw [if_pos q] at h
      refine s_isInside hd1 hs hm hT (fun c => ⟨_, rfl, am_step _ _ _ (b_Sh_fault_35 ⟨fun q2 => absurd q2 (by decide), fun _ => ?_⟩)⟩) (fun c => ⟨_, rfl, am_step _ _ _ (b_Sh_fault_35 ⟨fun _ => ?_, fun q2 => absurd rfl q2⟩)⟩)
      · rw [if_pos c] at h
        exact h
      · rw [if_neg c] at h
        exact h
    · have q2 : ¬ la = l := fun e => q (by rw [e])
      rw [if_neg q2] at h
      exact h
theorem s_why {s l m la sz : Nat} {i : Int32} (hd : 1 ≤ d) (hs : s < 4) (hl : l < 4) (hm : m < 100) (hT : sh_T I la sz s) (h : K (some (.int (g_fa la sz l i m))) (am_st I Lg rr n)) : am_AC d k_M_why [.ref 1469, .int (nI s), .int (nI l), .int i, .int (nI m)] (am_st I Lg rr n) K := by
  obtain ⟨d, rfl, hd1⟩ := s_up hd
  have es : am_un (nI s) = s := n_un (by omega)
  obtain ⟨t1, t2, t3, t4⟩ := hT
  unfold g_fa at h
  refine am_in _ _ _ (am_step _ _ _ (b_M_why_0 ?_))
  rw [es]
  rcases t4 with ⟨a1, a2, a3⟩ | ⟨a1, a2, a3⟩
  · rw [a3]
    rw [if_pos a1] at h
    exact ⟨hs, fun _ => h, fun q => absurd (show am_k (-1) < 0 by decide) q⟩
  · rw [a3]
    rw [if_neg (by omega)] at h
    refine ⟨hs, fun q => absurd q (show ¬ nI la < nI 0 from nI_nlt (Nat.zero_le _) (by omega)), fun _ => ⟨hs, fun q => ⟨fun q2 => ?_, fun q2 => ?_⟩, fun q => ?_⟩⟩
    · rw [nI_eq (by omega) (by omega)] at q
      rw [neg_0] at q2
      rw [if_pos q, if_neg (by omega)] at h
      exact h
    · rw [nI_eq (by omega) (by omega)] at q
      rw [neg_0] at q2
      rw [if_pos q] at h
      have es2 : (nI sz - i).toInt = sz - i.toInt := sub_toInt t1 (by omega)
      rw [t3]
      refine ⟨hs, fun q3 => ?_, fun q3 => ?_⟩
      · rw [fa0_lt, es2, nI_toInt (by omega)] at q3
        rw [if_neg (by omega)] at h
        exact h
      · rw [fa0_lt, es2, nI_toInt (by omega)] at q3
        rw [if_pos (by omega)] at h
        exact h
    · have q2 : ¬ la = l := fun e => q (by rw [e])
      rw [if_neg q2] at h
      exact h
theorem fa_cases (la sz l : Nat) (i : Int32) (m : Nat) : (g_fa la sz l i m = nI 0 ∧ la = l ∧ ∃ j, i = nI j ∧ j + m ≤ sz) ∨ (¬ g_fa la sz l i m = 0 ∧ g_fa la sz l i m < 0) := by
  unfold g_fa
  by_cases h1 : la = 4
  · rw [if_pos h1]
    exact Or.inr ⟨by decide, by decide⟩
  · rw [if_neg h1]
    by_cases h2 : la = l
    · rw [if_pos h2]
      by_cases h3 : 0 ≤ i.toInt ∧ i.toInt + m ≤ sz
      · rw [if_pos h3]
        exact Or.inl ⟨rfl, h2, i.toInt.toNat, (i_nat h3.1).1, by omega⟩
      · rw [if_neg h3]
        exact Or.inr ⟨by decide, by decide⟩
    · rw [if_neg h2]
      exact Or.inr ⟨by decide, by decide⟩
/-- V when only sheets changed -/
theorem vV.sh {I I' : Nat → Nat → Int32} {Lg Lg' : Nat → Nat → Int64} {rr : Nat → Nat → Option Nat} {n : Nat} (hG : g_fr G) (h : vV G I Lg rr n) (hs : vSh I' Lg') (hk : ∀ b, ¬ b = 1463 → ¬ b = 1464 → ¬ b = 1492 → ¬ b = 1493 → I' b = I b) : vV G I' Lg' rr n := by
  obtain ⟨h1, h2, h3, h4, h5, h6⟩ := h
  have k : ∀ b, ¬ b = 1463 ∧ ¬ b = 1464 ∧ ¬ b = 1492 ∧ ¬ b = 1493 → I' b = I b := fun b q => hk b q.1 q.2.1 q.2.2.1 q.2.2.2
  have k68 : I' 1469 = I 1469 := k _ (by omega)
  exact ⟨h1.fr (fun b b1 b2 => k b (by omega)) (fun b b1 b2 => k b (by omega)) (by rw [k68]), h2.fr (fun b b1 b2 => k b (by omega)) (k _ (by omega)) (k _ (by omega)) (by rw [k68]) rfl, h3.fr (fun b b1 b2 => k b (by omega)) (by rw [k 12 (by omega)]) (k _ (by omega)) (k _ (by omega)) (by rw [k68]) rfl, h4.fr (by rw [k 1438 (by omega)]) (by rw [k68]) (k _ (by omega)) (k _ (by omega)), hs, hG I I' (fun b hb => k b (by omega)) (by rw [k68]) (by rw [k68]) (by rw [k68]) h6⟩
theorem vSh.new {I I' : Nat → Nat → Int32} {Lg Lg' : Nat → Nat → Int64} {la sz : Nat → Nat} {v : Nat → Nat → Int64} {s l m : Nat} {w : Nat → Int64} (hS : ∀ s, s < 4 → sz s ≤ 32 ∧ I 1464 s = nI (sz s) ∧ I 1493 s = nI (sz s) ∧ (∀ i, i < 32 → Lg (1459 + s) i = v s i ∧ Lg 1494 (32 * s + i) = v s i) ∧ ((la s = 4 ∧ I 1463 s = am_k (-4) ∧ I 1492 s = am_k (-1)) ∨ (la s < 4 ∧ I 1463 s = nI (la s) ∧ I 1492 s = nI (la s)))) (hs : s < 4) (hl : l < 4) (hm : m ≤ 32)
    (r62 : I' 1463 = am_u1 (I 1463) s (nI l)) (r63 : I' 1464 = am_u1 (I 1464) s (nI m)) (r91 : I' 1492 = am_u1 (I 1492) s (nI l)) (r92 : I' 1493 = am_u1 (I 1493) s (nI m)) (hL : ∀ x, x < 4 → ¬ x = s → ∀ i, i < 32 → Lg' (1459 + x) i = Lg (1459 + x) i ∧ Lg' 1494 (32 * x + i) = Lg 1494 (32 * x + i)) (hW : ∀ i, i < 32 → Lg' (1459 + s) i = w i ∧ Lg' 1494 (32 * s + i) = w i) : vSh I' Lg' := by
  refine ⟨fun x => if x = s then l else la x, fun x => if x = s then m else sz x, fun x i => if x = s then w i else v x i, fun x hx => ?_⟩
  obtain ⟨u1, u2, u3, u4, u5⟩ := hS x hx
  rw [r62, r63, r91, r92]
  dsimp only
  by_cases e : x = s
  · subst e
    rw [if_pos rfl, if_pos rfl, am_u1_at, am_u1_at, am_u1_at, am_u1_at]
    refine ⟨hm, rfl, rfl, fun i hi => ?_, Or.inr ⟨hl, rfl, rfl⟩⟩
    rw [if_pos rfl]
    exact hW i hi
  · rw [if_neg e, if_neg e, am_u1_off _ _ e, am_u1_off _ _ e, am_u1_off _ _ e, am_u1_off _ _ e]
    refine ⟨u1, u2, u3, fun i hi => ?_, u5⟩
    rw [if_neg e, (hL x hx e i hi).1, (hL x hx e i hi).2]
    exact u4 i hi
theorem op_drop (hG : g_fr G) (a0 : Int32) : lw_Op (vV G) k_X_drop k_M_drop [.int a0] := by
  intro I Lg rr n hV
  obtain ⟨la, sz, v, hS⟩ := hV.2.2.2.2.1
  rcases rng_cases a0 (N := 4) (by decide) (by decide) with ⟨s, s1, rfl, s3, s4, s5⟩ | ⟨s3, s4, s5⟩
  · have es : am_un (nI s) = s := n_un (by omega)
    obtain ⟨t1, t2, t3, t4, t5⟩ := hS s s1
    refine am_in _ _ _ (am_step _ _ _ (b_X_drop_0 (s_isOutside (by decide) ⟨_, rfl, am_step _ _ _ (b_X_drop_5 ?_)⟩)))
    rw [s3]
    refine ⟨fun _ => am_in _ _ _ (am_step _ _ _ (b_Sh_remove_0 ?_)), fun q => absurd rfl q⟩
    rw [es]
    rcases t5 with ⟨a1, a2, a3⟩ | ⟨a1, a2, a3⟩
    · rw [a2]
      refine ⟨s1, fun _ => ⟨_, rfl, am_step _ _ _ (b_X_drop_18 ⟨_, rfl, I, Lg, rr, rfl, rfl, am_in _ _ _ (am_step _ _ _ (b_M_drop_0 (s_isSheet (by decide) ⟨_, rfl, am_step _ _ _ (b_M_drop_4 ?_)⟩)))⟩)⟩, fun q => absurd rfl q⟩
      rw [s4, es, a3]
      exact ⟨fun q => absurd q (by decide), fun _ => ⟨s1, fun _ => ⟨_, rfl, I, Lg, rr, rfl, rfl, hV⟩, fun q => absurd (show am_k (-1) < 0 by decide) q⟩⟩
    · rw [a2]
      refine ⟨s1, fun q => absurd q (k_ne_4 a1), fun _ => ⟨s1, s1, ⟨_, rfl, am_step _ _ _ (b_X_drop_18 ⟨_, rfl, _, Lg, rr, rfl, am_sr_off _ _ (by decide), am_in _ _ _ (am_step _ _ _ (b_M_drop_0 (s_isSheet (by decide) ⟨_, rfl, am_step _ _ _ (b_M_drop_4 ?_)⟩)))⟩)⟩⟩⟩
      rw [s4, es, am_sr_off _ _ (show ¬ 1492 = 1463 by decide), a3]
      refine ⟨fun q => absurd q (by decide), fun _ => ⟨s1, fun q => absurd q (show ¬ nI (la s) < nI 0 from nI_nlt (Nat.zero_le _) (by omega)), fun _ => ⟨s1, s1, ?_⟩⟩⟩
      refine ⟨_, rfl, _, Lg, rr, rfl, ?_, hV.sh hG ⟨fun x => if x = s then 4 else la x, sz, v, fun x hx => ?_⟩ (fun b b1 b2 b3 b4 => ?_)⟩
      · rw [am_sr_off _ _ (show ¬ 1493 = 1492 by decide), am_sr_off _ _ (show ¬ 1493 = 1463 by decide), am_sr_off _ _ (show ¬ 1464 = 1463 by decide), t2, t3]
      · obtain ⟨u1, u2, u3, u4, u5⟩ := hS x hx
        rw [am_sr_off _ _ (show ¬ 1493 = 1492 by decide), am_sr_off _ _ (show ¬ 1493 = 1463 by decide), am_sr_off _ _ (show ¬ 1464 = 1492 by decide), am_sr_off _ _ (show ¬ 1464 = 1463 by decide), am_sr_at, am_sr_off _ _ (show ¬ 1463 = 1492 by decide), am_sr_at]
        refine ⟨u1, u2, u3, u4, ?_⟩
        dsimp only
        by_cases e : x = s
        · subst e
          rw [if_pos rfl, am_u1_at, am_u1_at]
          exact Or.inl ⟨rfl, rfl, rfl⟩
        · rw [if_neg e, am_u1_off _ _ e, am_u1_off _ _ e]
          exact u5
      · rw [am_sr_off _ _ b3, am_sr_off _ _ b1]
  · refine am_in _ _ _ (am_step _ _ _ (b_X_drop_0 (s_isOutside (by decide) ⟨_, rfl, am_step _ _ _ (b_X_drop_5 ?_)⟩)))
    rw [s3]
    refine ⟨fun q => absurd q (by decide), fun _ => ⟨_, rfl, I, Lg, rr, rfl, rfl, am_in _ _ _ (am_step _ _ _ (b_M_drop_0 (s_isSheet (by decide) ⟨_, rfl, am_step _ _ _ (b_M_drop_4 ?_)⟩)))⟩⟩
    rw [s4]
    exact ⟨fun _ => ⟨_, rfl, I, Lg, rr, rfl, rfl, hV⟩, fun q => absurd rfl q⟩
theorem op_sheet (hG : g_fr G) (a0 a1 a2 : Int32) : lw_Op (vV G) k_X_sheet k_M_sheet [.int a0, .int a1, .int a2] := by
  intro I Lg rr n hV
  obtain ⟨la, sz, v, hS⟩ := hV.2.2.2.2.1
  rcases lane_cases a0 a1 with ⟨s, l, s1, l1, rfl, rfl, c3, c4, c5⟩ | ⟨c3, c4⟩
  · have es : am_un (nI s) = s := n_un (by omega)
    refine am_in _ _ _ (am_step _ _ _ (b_X_sheet_0 (s_isNoLane (by decide) ⟨_, rfl, am_step _ _ _ (b_X_sheet_5 ?_)⟩)))
    rw [c3]
    have mdl : ∀ I Lg rr, ∀ K : Option Value → am_M → Prop, (nI 32 < a2 → K (some (.int (am_k (-1)))) (am_st I Lg rr n)) → (¬ nI 32 < a2 → a2 < 0 → K (some (.int (am_k (-14)))) (am_st I Lg rr n)) → (¬ nI 32 < a2 → ¬ a2 < 0 → ∀ g, (∀ j, g j = if 32 * s ≤ j ∧ j < 32 * s + 32 then 0 else Lg 1494 j) → K (some (.int a2)) (am_st (am_sr (am_sr I 1492 (am_u1 (I 1492) s (nI l))) 1493 (am_u1 (I 1493) s a2)) (am_sr Lg 1494 g) rr n)) → am_AC 100 k_M_sheet [.ref 1469, .int (nI s), .int (nI l), .int a2] (am_st I Lg rr n) K := by
      intro I Lg rr K h1 h2 h3
      refine am_in _ _ _ (am_step _ _ _ (b_M_sheet_0 (s_isSheet (by decide) ⟨_, rfl, am_step _ _ _ (b_M_sheet_4 ?_)⟩)))
      rw [c4]
      refine ⟨fun q => absurd q (by decide), fun _ => s_in (by decide) ⟨_, rfl, am_step _ _ _ (b_M_sheet_16 ?_)⟩⟩
      rw [c5, es]
      refine ⟨fun q => absurd q (by decide), fun _ => ⟨h1, fun q => ⟨h2 q, fun q2 => ⟨s1, s1, ?_⟩⟩⟩⟩
      rw [am_sr_off _ _ (show ¬ 1493 = 1492 by decide)]
      have key : ∀ k, k ≤ 32 → ∀ g, (∀ j, g j = if 32 * s ≤ j ∧ j < 32 * s + k then 0 else Lg 1494 j) → am_St 99 k_M_sheet (am_st I Lg rr n) K 51 [some (.ref 1469), some (.int (nI s)), some (.int (nI l)), some (.int a2), some (.int (nI k))] [] (am_st (am_sr (am_sr I 1492 (am_u1 (I 1492) s (nI l))) 1493 (am_u1 (I 1493) s a2)) (am_sr Lg 1494 g) rr n) := by
        refine lp_up _ (fun k hk ih => ?_) ?_
        · intro g hg
          refine am_step _ _ _ (b_M_sheet_51 ⟨fun _ => ?_, fun q => absurd (nI_lt hk (by decide)) q⟩)
          have ei : am_un (nI 32 * nI s + nI k) = 32 * s + k := by
            rw [pk_mul, nI_add]
            exact n_un (by omega)
          rw [ei, am_sr_at, am_sr_sr, nI_add]
          refine ⟨by omega, ih _ (fun j => ?_)⟩
          by_cases e : j = 32 * s + k
          · subst e
            rw [am_u1_at, if_pos (by omega)]
            rfl
          · rw [am_u1_off _ _ e, hg j]
            by_cases e2 : 32 * s ≤ j ∧ j < 32 * s + k
            · rw [if_pos e2, if_pos (by omega)]
            · rw [if_neg e2, if_neg (by omega)]
        · intro g hg
          exact am_step _ _ _ (b_M_sheet_51 ⟨fun q => absurd q (by decide), fun _ => h3 q q2 g hg⟩)
      have k0 := key 0 (by decide) (Lg 1494) (fun j => by rw [if_neg (by omega)])
      rw [am_sr_id] at k0
      exact k0
    refine ⟨fun _ => ⟨fun q => ⟨_, rfl, I, Lg, rr, rfl, rfl, mdl I Lg rr _ (fun _ => ⟨_, rfl, I, Lg, rr, rfl, rfl, hV⟩) (fun q2 => absurd q q2) (fun q2 => absurd q q2)⟩, fun q => ⟨fun q2 => ⟨_, rfl, I, Lg, rr, rfl, rfl, mdl I Lg rr _ (fun q3 => absurd q3 q) (fun _ _ => ⟨_, rfl, I, Lg, rr, rfl, rfl, hV⟩) (fun _ q3 => absurd q2 q3)⟩, fun q2 => am_in _ _ _ (am_step _ _ _ (b_Sh_create_0 ?_))⟩⟩, fun q => absurd rfl q⟩
    obtain ⟨m, m1, rfl⟩ : ∃ m, m ≤ 32 ∧ a2 = nI m := by
      rw [fa0_lt, nI_toInt (by decide)] at q
      rw [neg_0] at q2
      exact ⟨a2.toInt.toNat, by omega, (i_nat (by omega)).1⟩
    rw [es]
    refine ⟨s1, am_obi (RR_1457 rr s s1) (s_fillL (N := 32) (by decide) (rows_sh s s1).1 (rows_sh s s1).2 (show 1459 + s < 1497 by omega) (by omega) ⟨rfl, am_step _ _ _ (b_Sh_create_10 ?_)⟩)⟩
    rw [es, am_sr_off _ _ (show ¬ 1464 = 1463 by decide)]
    refine ⟨s1, s1, ⟨rfl, am_step _ _ _ (b_X_sheet_33 ⟨_, rfl, _, _, rr, rfl, ?_, mdl _ _ _ _ (fun q3 => absurd q3 q) (fun _ q3 => absurd q3 q2) (fun _ _ g hg => ⟨_, rfl, _, _, rr, rfl, rfl, hV.sh hG (vSh.new hS s1 (l := l) (m := m) (w := fun _ => 0) l1 m1 ?_ ?_ ?_ ?_ (fun x hx hne i hi => ⟨?_, ?_⟩) (fun i hi => ⟨?_, ?_⟩)) (fun b b1 b2 b3 b4 => ?_)⟩)⟩)⟩⟩
    · rw [am_sr_off _ _ (by decide), am_sr_off _ _ (by decide)]
    · rw [am_sr_off _ _ (by decide), am_sr_off _ _ (by decide), am_sr_off _ _ (by decide), am_sr_at]
    · rw [am_sr_off _ _ (by decide), am_sr_off _ _ (by decide), am_sr_at]
    · rw [am_sr_off _ _ (by decide), am_sr_at, am_sr_off _ _ (by decide), am_sr_off _ _ (by decide)]
    · rw [am_sr_at, am_sr_off _ _ (by decide), am_sr_off _ _ (by decide)]
    · rw [am_sr_off _ _ (by omega), am_sr_off _ _ (by omega)]
    · rw [am_sr_at, hg, if_neg (by omega), am_sr_off _ _ (by omega)]
    · rw [am_sr_off _ _ (by omega), am_sr_at, am_fl_in _ _ hi]
      rfl
    · rw [am_sr_at, hg, if_pos (by omega)]
    · rw [am_sr_off _ _ b4, am_sr_off _ _ b3, am_sr_off _ _ b2, am_sr_off _ _ b1]
  · refine am_in _ _ _ (am_step _ _ _ (b_X_sheet_0 (s_isNoLane (by decide) ⟨_, rfl, am_step _ _ _ (b_X_sheet_5 ?_)⟩)))
    rw [c3]
    refine ⟨fun q => absurd q (by decide), fun _ => ⟨_, rfl, I, Lg, rr, rfl, rfl, am_in _ _ _ (am_step _ _ _ (b_M_sheet_0 (s_isSheet (by decide) ⟨_, rfl, am_step _ _ _ (b_M_sheet_4 ?_)⟩)))⟩⟩
    rcases c4 with c4 | ⟨c4, c5⟩
    · rw [c4]
      exact ⟨fun _ => ⟨_, rfl, I, Lg, rr, rfl, rfl, hV⟩, fun q => absurd rfl q⟩
    · rw [c4]
      refine ⟨fun q => absurd q (by decide), fun _ => s_in (by decide) ⟨_, rfl, am_step _ _ _ (b_M_sheet_16 ?_)⟩⟩
      rw [c5]
      exact ⟨fun _ => ⟨_, rfl, I, Lg, rr, rfl, rfl, hV⟩, fun q => absurd rfl q⟩
end SF
