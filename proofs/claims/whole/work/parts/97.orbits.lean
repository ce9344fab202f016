/-! GROUPS: THE ORBITS OF THE CLASS -/
def eqv (Q : Nat → Nat → Prop) : Prop := (∀ x, Q x x) ∧ (∀ x y, Q x y → Q y x) ∧ ∀ x y z, Q x y → Q y z → Q x z
/-- ρ tells the classes by the first q moves of w -/
def oR (γ : Nat → Nat → Nat) (w q N : Nat) (ρ : Nat → Nat) : Prop := ufr N ρ ∧ (∀ m, m < q → w.testBit m = true → ∀ i, i < N → ρ i = ρ (γ m i)) ∧ ∀ Q, eqv Q → (∀ m, m < q → w.testBit m = true → ∀ i, i < N → Q i (γ m i)) → ∀ x, x < N → Q x (ρ x)
def oJ (I : Nat → Nat → Int32) (kind N : Nat) (ρ : Nat → Nat) (J : Nat → Nat → Int32) : Prop := (∀ b, ¬ b = 1333 → ¬ b = 1334 → ¬ b = 1335 → J b = I b) ∧ J 1333 2 = nI kind ∧ J 1333 3 = nI N ∧ uf (J 1334) N ρ
theorem jn_Q {Q : Nat → Nat → Prop} (hQ : eqv Q) {ρ : Nat → Nat} {N a b x : Nat} (h : ∀ x, x < N → Q x (ρ x)) (ha : a < N) (hb : b < N) (hx : x < N) (hab : Q a b) : Q x (g_jn ρ a b x) := by
  obtain ⟨q1, q2, q3⟩ := hQ
  have ab : Q (ρ a) (ρ b) := q3 _ _ _ (q2 _ _ (h a ha)) (q3 _ _ _ hab (h b hb))
  unfold g_jn
  by_cases c : ρ x = max (ρ a) (ρ b)
  · rw [if_pos c]
    refine q3 _ _ _ (h x hx) ?_
    rw [c]
    rcases Nat.le_total (ρ a) (ρ b) with c2 | c2
    · rw [Nat.max_eq_right c2, Nat.min_eq_left c2]
      exact q2 _ _ ab
    · rw [Nat.max_eq_left c2, Nat.min_eq_right c2]
      exact ab
  · rw [if_neg c]
    exact h x hx
section JO
variable {d : Nat} {K : Option Value → am_M → Prop} {I J : Nat → Nat → Int32} {Lg : Nat → Nat → Int64} {rr : Nat → Nat → Option Nat} {n : Nat} {N kind : Nat} {ρ : Nat → Nat} {f : Nat → Nat} {a w : Nat} {now : a_S}
theorem s_Or_begin (hd : 1 ≤ d) (hk : kind < 3) (hN : N = if kind = 0 then 24 else 4096) (h : ∀ J, oJ I kind N (fun x => x) J → K none (am_st J Lg rr n)) : am_AC d k_Or_begin [.ref 1333, .int (nI kind)] (am_st I Lg rr n) K := by
  obtain ⟨d, rfl, hd1⟩ := s_up hd
  have N4 : N ≤ 4096 := by rw [hN]; split <;> decide
  have key : ∀ i, i ≤ N → ∀ J, (∀ b, ¬ b = 1333 → ¬ b = 1334 → ¬ b = 1335 → J b = I b) → J 1333 2 = nI kind → J 1333 3 = nI N → (∀ j, j < i → J 1334 j = nI j) → am_St d k_Or_begin (am_st I Lg rr n) K 26 [some (.ref 1333), some (.int (nI kind)), some (.int (nI i))] [] (am_st J Lg rr n) := by
    refine lp_up _ (fun i hi ih => ?_) ?_
    · intro J o1 o2 o3 o4
      refine am_step _ _ _ (b_Or_begin_26 ?_)
      rw [o3, n_un (by omega), nI_add]
      refine ⟨fun _ => ⟨by omega, ih _ (fun b b1 b2 b3 => ?_) ?_ ?_ (fun j hj => ?_)⟩, fun q => absurd (nI_lt hi (by omega)) q⟩
      · rw [am_sr_off _ _ b2]
        exact o1 b b1 b2 b3
      · rw [am_sr_off _ _ (by decide)]
        exact o2
      · rw [am_sr_off _ _ (by decide)]
        exact o3
      · rw [am_sr_at]
        by_cases c : j = i
        · rw [c, am_u1_at]
        · rw [am_u1_off _ _ c]
          exact o4 j (by omega)
    · intro J o1 o2 o3 o4
      refine am_step _ _ _ (b_Or_begin_26 ?_)
      rw [o3]
      exact ⟨fun q => absurd q (nI_nlt (Nat.le_refl _) (by omega)), fun _ => h J ⟨o1, o2, o3, fun x => x, fun i hi => ⟨o4 i hi, Nat.le_refl _, rfl, fun _ => rfl⟩⟩⟩
  refine am_in _ _ _ (am_step _ _ _ (b_Or_begin_0 ?_))
  have fin : ∀ v, v = nI N → am_St d k_Or_begin (am_st I Lg rr n) K 26 [some (.ref 1333), some (.int (nI kind)), some (.int (nI 0))] [] (am_st (am_sr (am_sr I 1333 (am_u1 (I 1333) 2 (nI kind))) 1333 (am_u1 ((am_sr I 1333 (am_u1 (I 1333) 2 (nI kind))) 1333) 3 v)) Lg rr n) := fun v hv => key 0 (Nat.zero_le _) _ (fun b b1 b2 b3 => by rw [am_sr_off _ _ b1, am_sr_off _ _ b1]) (by rw [am_sr_at, am_u1_off _ _ (by decide), am_sr_at, am_u1_at]) (by rw [am_sr_at, am_u1_at, hv]) (fun j hj => absurd hj (Nat.not_lt_zero j))
  refine ⟨fun q => fin _ ?_, fun q => fin _ ?_⟩
  · rw [am_sr_at, am_u1_at] at q
    have : kind = 0 := by
      rw [show (0 : Int32) = nI 0 from rfl, nI_eq (by omega) (by decide)] at q
      exact q
    rw [hN, if_pos this]
  · rw [am_sr_at, am_u1_at] at q
    have : ¬ kind = 0 := fun e => q (by rw [e]; rfl)
    rw [hN, if_neg this]
theorem go_ltN (hf : a_pm f) (hN : N = if kind = 0 then 24 else 4096) {i : Nat} (hi : i < N) : g_go kind f i < N := by
  by_cases c : kind = 0
  · rw [if_pos c] at hN
    unfold g_go
    rw [if_pos c, hN]
    exact hf.1 i (by omega)
  · rw [if_neg c] at hN
    rw [hN]
    exact go_lt c i
theorem s_joinBy (hd : 5 ≤ d) (hT : vT I) (hk : kind < 3) (hN : N = if kind = 0 then 24 else 4096) (ha : am_ro 1497 a 24) (hI : ∀ p, p < 24 → I a p = nI (f p)) (hf : a_pm f) (hne : ¬ a = 1333 ∧ ¬ a = 1334 ∧ ¬ a = 1335) (hJ : oJ I kind N ρ J) (hρ : ufr N ρ) (h : ∀ J' ρ', oJ I kind N ρ' J' → ufr N ρ' → (∀ x y, ρ x = ρ y → ρ' x = ρ' y) → (∀ i, i < N → ρ' i = ρ' (g_go kind f i)) → (∀ Q, eqv Q → (∀ x, x < N → Q x (ρ x)) → (∀ i, i < N → Q i (g_go kind f i)) → ∀ x, x < N → Q x (ρ' x)) → K none (am_st J' Lg rr n)) : am_AC d k_Or_joinBy [.ref 1333, .ref 19, .ref a] (am_st J Lg rr n) K := by
  obtain ⟨d, rfl, hd1⟩ := s_up hd
  obtain ⟨o1, o2, o3, o4⟩ := hJ
  have N4 : N ≤ 4096 := by rw [hN]; split <;> decide
  have hTJ : vT J := hT.fr (fun b b1 b2 => o1 b (by omega) (by omega) (by omega)) (fun b b1 b2 => o1 b (by omega) (by omega) (by omega)) (by rw [o1 1469 (by decide) (by decide) (by decide)])
  have hIJ : ∀ p, p < 24 → J a p = nI (f p) := fun p hp => by rw [o1 a hne.1 hne.2.1 hne.2.2]; exact hI p hp
  have main : ∀ J1, (∀ b, ¬ b = 1335 → J1 b = J b) → (∀ j, j < N → J1 1335 j = nI (g_go kind f j)) → ∀ i, i ≤ N → ∀ J2 ρ2, uo J1 N ρ2 J2 → ufr N ρ2 → (∀ x y, ρ x = ρ y → ρ2 x = ρ2 y) → (∀ j, j < i → ρ2 j = ρ2 (g_go kind f j)) → (∀ Q, eqv Q → (∀ x, x < N → Q x (ρ x)) → (∀ i, i < N → Q i (g_go kind f i)) → ∀ x, x < N → Q x (ρ2 x)) → am_St d k_Or_joinBy (am_st J Lg rr n) K 26 [some (.ref 1333), some (.ref 19), some (.ref a), some (.int (nI i))] [] (am_st J2 Lg rr n) := by
    intro J1 p1 p2
    have t3 : J1 1333 3 = nI N := by rw [p1 1333 (by decide), o3]
    refine lp_up _ (fun i hi ih => ?_) ?_
    · intro J2 ρ2 u r k1 k2 k3
      have gl := go_ltN hf hN hi
      refine am_step _ _ _ (b_Or_joinBy_26 ?_)
      rw [u.1 1333 (by decide), t3, n_un (by omega), u.1 1335 (by decide), p2 i hi]
      refine ⟨fun _ => ⟨by omega, s_Or_join (by omega) N4 t3 r hi gl u fun J3 u3 => ⟨rfl, am_step _ _ _ (b_Or_joinBy_45 ?_)⟩⟩, fun q => absurd (nI_lt hi (by omega)) q⟩
      obtain ⟨r1, r2⟩ := jn_r r hi gl
      rw [nI_add]
      refine ih J3 _ u3 r1 (fun x y e => jn_keep (k1 x y e)) (fun j hj => ?_) (fun Q hQ h1 h2 x hx => jn_Q hQ (k3 Q hQ h1 h2) hi gl hx (h2 i hi))
      by_cases c : j = i
      · rw [c]
        exact r2
      · exact jn_keep (k2 j (by omega))
    · intro J2 ρ2 u r k1 k2 k3
      refine am_step _ _ _ (b_Or_joinBy_26 ?_)
      rw [u.1 1333 (by decide), t3]
      refine ⟨fun q => absurd q (nI_nlt (Nat.le_refl _) (by omega)), fun _ => h J2 ρ2 ⟨fun b b1 b2 b3 => ?_, ?_, ?_, u.2⟩ r k1 k2 k3⟩
      · rw [u.1 b b2, p1 b b3]
        exact o1 b b1 b2 b3
      · rw [u.1 1333 (by decide), p1 1333 (by decide), o2]
      · rw [u.1 1333 (by decide), t3]
  have start : ∀ J1, (∀ b, ¬ b = 1335 → J1 b = J b) → (∀ j, j < N → J1 1335 j = nI (g_go kind f j)) → am_St d k_Or_joinBy (am_st J Lg rr n) K 26 [some (.ref 1333), some (.ref 19), some (.ref a), some (.int (nI 0))] [] (am_st J1 Lg rr n) := fun J1 p1 p2 => main J1 p1 p2 0 (Nat.zero_le _) J1 ρ ⟨fun b _ => rfl, by rw [p1 1334 (by decide)]; exact o4⟩ hρ (fun x y e => e) (fun j hj => absurd hj (Nat.not_lt_zero j)) (fun Q hQ h1 h2 => h1)
  refine am_in _ _ _ (am_step _ _ _ (b_Or_joinBy_0 ?_))
  rw [o2]
  refine ⟨fun q => ?_, fun q => ?_⟩
  · have c : kind = 0 := by
      rw [show (0 : Int32) = nI 0 from rfl, nI_eq (by omega) (by decide)] at q
      exact q
    rw [if_pos c] at hN
    refine s_assign_g (by omega) ha ⟨rfl, am_step _ _ _ (b_Or_joinBy_15 (am_step _ _ _ (b_Or_joinBy_24 (start _ (fun b hb => am_sr_off _ _ hb) (fun j hj => ?_)))))⟩ hne.2.2
    rw [am_sr_at, am_fl_in _ _ (by omega), hIJ j (by omega)]
    unfold g_go
    rw [if_pos c]
  · have c : ¬ kind = 0 := fun e => q (by rw [e]; rfl)
    rw [if_neg c] at hN
    exact s_fillGoals (by omega) hTJ c o2 (by rw [o3, hN]) hk ha hIJ hf hne.2.2 fun J1 p1 p2 => ⟨rfl, am_step _ _ _ (b_Or_joinBy_24 (start J1 p1 (fun j hj => p2 j (by omega))))⟩
theorem s_findOrbits (hd : 6 ≤ d) (hT : vT I) (ok : a_ok now) (hc : c_S I 1337 now) (hw : w < 16) (hk : kind < 3) (hN : N = if kind = 0 then 24 else 4096) (h : ∀ J ρ, oJ I kind N ρ J → oR (fun m => g_go kind (now.1 m)) w 4 N ρ → K none (am_st J Lg rr n)) : am_AC d k_X_findOrbits [.ref 12, .int (nI w), .int (nI kind)] (am_st I Lg rr n) K := by
  obtain ⟨d, rfl, hd1⟩ := s_up hd
  have key : ∀ m, m ≤ 4 → ∀ J ρ, oJ I kind N ρ J → oR (fun m => g_go kind (now.1 m)) w m N ρ → am_St d k_X_findOrbits (am_st I Lg rr n) K 10 [some (.ref 12), some (.int (nI w)), some (.int (nI kind)), some (.int (nI m))] [] (am_st J Lg rr n) := by
    refine lp_up _ (fun m hm ih => ?_) ?_
    · intro J ρ hJ hR
      obtain ⟨r1, r2, r3⟩ := hR
      refine am_step _ _ _ (b_X_findOrbits_10 ⟨fun _ => ⟨fun q => ?_, fun q => ?_⟩, fun q => absurd (nI_lt hm (by decide)) q⟩)
      · rw [n_bit (by omega) (by omega)] at q
        rw [n_un (by omega)]
        refine ⟨by omega, am_obi (RR_now rr m (by omega)) (s_joinBy (by omega) hT hk hN (ro_now (by omega)) (now_x hc (by omega)) (ok.1 m (by omega)) ⟨by omega, by omega, by omega⟩ hJ r1 fun J' ρ' j1 j2 j3 j4 j5 => ⟨rfl, am_step _ _ _ (b_X_findOrbits_47 ?_)⟩)⟩
        rw [nI_add]
        refine ih J' ρ' j1 ⟨j2, fun i hi hb x hx => ?_, fun Q hQ hq x hx => j5 Q hQ (r3 Q hQ fun i hi hb y hy => hq i (by omega) hb y hy) (hq m (by omega) q) x hx⟩
        by_cases c : i = m
        · rw [c]
          exact j4 x hx
        · exact j3 _ _ (r2 i (by omega) hb x hx)
      · rw [n_bit (by omega) (by omega)] at q
        refine am_step _ _ _ (b_X_findOrbits_47 ?_)
        rw [nI_add]
        refine ih J ρ hJ ⟨r1, fun i hi hb x hx => ?_, fun Q hQ hq x hx => r3 Q hQ (fun i hi hb y hy => hq i (by omega) hb y hy) x hx⟩
        have : ¬ i = m := fun e => q (by rw [← e]; exact hb)
        exact r2 i (by omega) hb x hx
    · intro J ρ hJ hR
      exact am_step _ _ _ (b_X_findOrbits_10 ⟨fun q => absurd q (by decide), fun _ => h J ρ hJ hR⟩)
  exact am_in _ _ _ (am_step _ _ _ (b_X_findOrbits_0 (s_Or_begin (by omega) hk hN fun J hJ => ⟨rfl, am_step _ _ _ (b_X_findOrbits_8 (key 0 (by decide) J _ hJ ⟨fun i _ => ⟨Nat.le_refl _, rfl⟩, fun m hm => absurd hm (Nat.not_lt_zero m), fun Q hQ _ x _ => hQ.1 x⟩))⟩)))
end JO
