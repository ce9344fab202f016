/-! THE OPERATIONS item, film -/
def g_ct (l : Nat) (x : Int64) : Int64 := if l = 0 then x.toInt32.toInt8.toInt32.toInt64 else if l = 1 then x.toInt32.toInt16.toInt32.toInt64 else if l = 2 then x.toInt32.toInt64 else x
theorem ct_small : ∀ l, l < 4 → ∀ f, f < 24 → g_ct l (nI f).toInt64 = (nI f).toInt64 := by decide +kernel
def sh_W (I : Nat → Nat → Int32) (Lg : Nat → Nat → Int64) (la sz : Nat → Nat) (v : Nat → Nat → Int64) : Prop := ∀ s, s < 4 → sz s ≤ 32 ∧ I 1464 s = nI (sz s) ∧ I 1493 s = nI (sz s) ∧ (∀ i, i < 32 → Lg (1459 + s) i = v s i ∧ Lg 1494 (32 * s + i) = v s i) ∧ ((la s = 4 ∧ I 1463 s = am_k (-4) ∧ I 1492 s = am_k (-1)) ∨ (la s < 4 ∧ I 1463 s = nI (la s) ∧ I 1492 s = nI (la s)))
theorem sh_W.T {I : Nat → Nat → Int32} {Lg : Nat → Nat → Int64} {la sz : Nat → Nat} {v : Nat → Nat → Int64} (h : sh_W I Lg la sz v) {s : Nat} (hs : s < 4) : sh_T I (la s) (sz s) s := ⟨(h s hs).1, (h s hs).2.1, (h s hs).2.2.1, (h s hs).2.2.2.2⟩
theorem vSh.lg {I : Nat → Nat → Int32} {Lg Lg' : Nat → Nat → Int64} {la sz : Nat → Nat} {v : Nat → Nat → Int64} {s : Nat} {w : Nat → Int64} (hS : sh_W I Lg la sz v) (hL : ∀ x, x < 4 → ¬ x = s → ∀ i, i < 32 → Lg' (1459 + x) i = Lg (1459 + x) i ∧ Lg' 1494 (32 * x + i) = Lg 1494 (32 * x + i)) (hW : ∀ i, i < 32 → Lg' (1459 + s) i = w i ∧ Lg' 1494 (32 * s + i) = w i) : vSh I Lg' := by
  refine ⟨la, sz, fun x i => if x = s then w i else v x i, fun x hx => ?_⟩
  obtain ⟨u1, u2, u3, u4, u5⟩ := hS x hx
  refine ⟨u1, u2, u3, fun i hi => ?_, u5⟩
  dsimp only
  by_cases e : x = s
  · subst e
    rw [if_pos rfl]
    exact hW i hi
  · rw [if_neg e, (hL x hx e i hi).1, (hL x hx e i hi).2]
    exact u4 i hi
section IT
variable {d : Nat} {K : Option Value → am_M → Prop} {I : Nat → Nat → Int32} {Lg : Nat → Nat → Int64} {rr : Nat → Nat → Option Nat} {n : Nat} {G : (Nat → Nat → Int32) → Prop}
theorem s_put {s la sz j : Nat} {x : Int64} (hd : 2 ≤ d) (hs : s < 4) (hT : sh_T I la sz s) (hl : la < 4) (hj : j < sz) (h : K none (am_st I (am_sr Lg (1459 + s) (am_u1 (Lg (1459 + s)) j (g_ct la x))) rr n)) : am_AC d k_Sh_put [.ref 1457, .int (nI s), .int (nI j), .long x] (am_st I Lg rr n) K := by
  obtain ⟨d, rfl, hd1⟩ := s_up hd
  have es : am_un (nI s) = s := n_un (by omega)
  have hT2 := hT
  obtain ⟨t1, t2, t3, t4⟩ := hT2
  have t5 : I 1463 s = nI la := by
    rcases t4 with ⟨a1, a2, a3⟩ | ⟨a1, a2, a3⟩
    · omega
    · exact a2
  have ej : am_un (nI j) = j := n_un (by omega)
  have gs : (am_oS (1459 + s) 2 && Nat.ble 12 (1459 + s)) = true := am_ba (oS_of (rows_sh s hs).1 (by omega)) (Nat.ble_eq_true_of_le (by omega))
  have ls : am_lS n (1459 + s) = 32 := lS_of (rows_sh s hs).2 (by omega)
  have ji : (nI j).toInt = j := nI_toInt (by omega)
  refine am_in _ _ _ (am_step _ _ _ (b_Sh_put_0 (s_isInside hd1 hs (by decide) hT (fun _ => ⟨_, rfl, am_step _ _ _ (b_Sh_put_7 ?_)⟩) (fun q => absurd ⟨by omega, by omega⟩ q))))
  rw [es, t5, ej]
  unfold g_ct at h
  refine ⟨fun q => absurd q (by decide), fun _ => ⟨hs, fun q => ?_, fun q0 => ⟨fun q => ?_, fun q1 => ⟨fun q => ?_, fun q2 => ?_⟩⟩⟩⟩
  · rw [nI_eq (by omega) (by decide)] at q
    rw [if_pos q] at h
    refine ⟨hs, am_obi (RR_1457 rr s hs) (am_gi gs ?_)⟩
    rw [ls]
    exact ⟨by omega, h⟩
  · rw [nI_eq (by omega) (by decide)] at q0 q
    rw [if_neg q0, if_pos q] at h
    refine ⟨hs, am_obi (RR_1457 rr s hs) (am_gi gs ?_)⟩
    rw [ls]
    exact ⟨by omega, h⟩
  · rw [nI_eq (by omega) (by decide)] at q0 q1 q
    rw [if_neg q0, if_neg q1, if_pos q] at h
    refine ⟨hs, am_obi (RR_1457 rr s hs) (am_gi gs ?_)⟩
    rw [ls]
    exact ⟨by omega, h⟩
  · rw [nI_eq (by omega) (by decide)] at q0 q1 q2
    rw [if_neg q0, if_neg q1, if_neg q2] at h
    refine ⟨hs, am_obi (RR_1457 rr s hs) (am_gi gs ?_)⟩
    rw [ls]
    exact ⟨by omega, h⟩
theorem s_cut {l : Nat} {x : Int64} {M : am_M} (hd : 1 ≤ d) (hl : l < 4) (h : K (some (.long (g_ct l x))) M) : am_AC d k_M_cut [.long x, .int (nI l)] M K := by
  obtain ⟨d, rfl, hd1⟩ := s_up hd
  unfold g_ct at h
  refine am_in _ _ _ (am_step _ _ _ (p_M_cut_0 ⟨fun q => ?_, fun q0 => ⟨fun q => ?_, fun q1 => ⟨fun q => ?_, fun q2 => ?_⟩⟩⟩))
  · have q : nI l = nI 0 := q
    rw [nI_eq (by omega) (by decide)] at q
    rw [if_pos q] at h
    exact h
  · have q0 : ¬ nI l = nI 0 := q0
    rw [nI_eq (by omega) (by decide)] at q0 q
    rw [if_neg q0, if_pos q] at h
    exact h
  · have q0 : ¬ nI l = nI 0 := q0
    rw [nI_eq (by omega) (by decide)] at q0 q1 q
    rw [if_neg q0, if_neg q1, if_pos q] at h
    exact h
  · have q0 : ¬ nI l = nI 0 := q0
    rw [nI_eq (by omega) (by decide)] at q0 q1 q2
    rw [if_neg q0, if_neg q1, if_neg q2] at h
    exact h
theorem op_item (hG : g_fr G) (a0 a1 a2 : Int32) (a3 : Int64) : lw_Op (vV G) k_X_item k_M_item [.int a0, .int a1, .int a2, .long a3] := by
  intro I Lg rr n hV
  obtain ⟨la, sz, v, hS⟩ := hV.2.2.2.2.1
  have hW : sh_W I Lg la sz v := hS
  rcases lane_cases a0 a1 with ⟨s, l, s1, l1, rfl, rfl, c3, c4, c5⟩ | ⟨c3, c4⟩
  · have hT := hW.T s1
    refine am_in _ _ _ (am_step _ _ _ (b_X_item_0 (s_isNoLane (by decide) ⟨_, rfl, am_step _ _ _ (b_X_item_5 ?_)⟩)))
    rw [c3]
    refine ⟨fun _ => s_fault (by decide) s1 l1 (by decide) hT ⟨_, rfl, am_step _ _ _ (b_X_item_21 ?_)⟩, fun q => absurd rfl q⟩
    have mdl : ∀ I Lg, sh_T I (la s) (sz s) s → ∀ K : Option Value → am_M → Prop, (¬ g_fa (la s) (sz s) l a2 1 = 0 → K (some (.int (g_fa (la s) (sz s) l a2 1))) (am_st I Lg rr n)) → (g_fa (la s) (sz s) l a2 1 = 0 → ∀ j, a2 = nI j → j < sz s → K (some (.int (nI 1))) (am_st I (am_sr Lg 1494 (am_u1 (Lg 1494) (32 * s + j) (g_ct l a3))) rr n)) → am_AC 100 k_M_item [.ref 1469, .int (nI s), .int (nI l), .int a2, .long a3] (am_st I Lg rr n) K := by
      intro I Lg hT K h1 h2
      refine am_in _ _ _ (am_step _ _ _ (b_M_item_0 (s_isSheet (by decide) ⟨_, rfl, am_step _ _ _ (b_M_item_4 ?_)⟩)))
      rw [c4]
      refine ⟨fun q => absurd q (by decide), fun _ => s_in (by decide) ⟨_, rfl, am_step _ _ _ (b_M_item_16 ?_)⟩⟩
      rw [c5]
      refine ⟨fun q => absurd q (by decide), fun _ => s_why (by decide) s1 l1 (by decide) hT ⟨_, rfl, am_step _ _ _ (b_M_item_29 ?_)⟩⟩
      rcases fa_cases (la s) (sz s) l a2 1 with ⟨f1, f2, j, rfl, f3⟩ | ⟨f1, f2⟩
      · rw [f1]
        refine ⟨fun q => absurd q (by decide), fun _ => s_cut (by decide) l1 ⟨_, rfl, am_step _ _ _ (b_M_item_55 ?_)⟩⟩
        have := hT.1
        rw [pk_mul, nI_add, n_un (by omega)]
        exact ⟨by omega, h2 f1 j rfl (by omega)⟩
      · exact ⟨fun _ => h1 f1, fun q => absurd f2 q⟩
    rcases fa_cases (la s) (sz s) l a2 1 with ⟨f1, f2, j, rfl, f3⟩ | ⟨f1, f2⟩
    · have t1 := hT.1
      rw [f1]
      refine ⟨fun _ => s_put (by decide) s1 hT (by omega) (show j < sz s by omega) ⟨rfl, am_step _ _ _ (b_X_item_42 ⟨_, rfl, _, _, rr, rfl, rfl, mdl _ _ hT _ (fun q => absurd f1 q) (fun _ j2 e2 e3 => ?_)⟩)⟩, fun q => absurd rfl q⟩
      rw [nI_eq (by omega) (by omega)] at e2
      subst e2
      refine ⟨_, rfl, _, _, rr, rfl, rfl, hV.sh hG (vSh.lg (s := s) (w := am_u1 (v s) j (g_ct l a3)) hW (fun x hx hne i hi => ⟨?_, ?_⟩) (fun i hi => ⟨?_, ?_⟩)) (fun _ _ _ _ _ => rfl)⟩
      · rw [am_sr_off _ _ (by omega), am_sr_off _ _ (by omega)]
      · rw [am_sr_at, am_u1_off _ _ (by omega), am_sr_off _ _ (by omega)]
      · rw [am_sr_off _ _ (by omega), am_sr_at, f2]
        by_cases e : i = j
        · subst e
          rw [am_u1_at, am_u1_at]
        · rw [am_u1_off _ _ e, am_u1_off _ _ e, ((hW s s1).2.2.2.1 i hi).1]
      · rw [am_sr_at, am_sr_off _ _ (show ¬ 1494 = 1459 + s by omega)]
        by_cases e : i = j
        · subst e
          rw [am_u1_at, am_u1_at]
        · rw [am_u1_off _ _ (by omega), am_u1_off _ _ e, ((hW s s1).2.2.2.1 i hi).2]
    · exact ⟨fun q => absurd q f1, fun _ => ⟨_, rfl, I, Lg, rr, rfl, rfl, mdl I Lg hT _ (fun _ => ⟨_, rfl, I, Lg, rr, rfl, rfl, hV⟩) (fun q => absurd q f1)⟩⟩
  · refine am_in _ _ _ (am_step _ _ _ (b_X_item_0 (s_isNoLane (by decide) ⟨_, rfl, am_step _ _ _ (b_X_item_5 ?_)⟩)))
    rw [c3]
    refine ⟨fun q => absurd q (by decide), fun _ => ⟨_, rfl, I, Lg, rr, rfl, rfl, am_in _ _ _ (am_step _ _ _ (b_M_item_0 (s_isSheet (by decide) ⟨_, rfl, am_step _ _ _ (b_M_item_4 ?_)⟩)))⟩⟩
    rcases c4 with c4 | ⟨c4, c5⟩
    · rw [c4]
      exact ⟨fun _ => ⟨_, rfl, I, Lg, rr, rfl, rfl, hV⟩, fun q => absurd rfl q⟩
    · rw [c4]
      refine ⟨fun q => absurd q (by decide), fun _ => s_in (by decide) ⟨_, rfl, am_step _ _ _ (b_M_item_16 ?_)⟩⟩
      rw [c5]
      exact ⟨fun _ => ⟨_, rfl, I, Lg, rr, rfl, rfl, hV⟩, fun q => absurd rfl q⟩
end IT
