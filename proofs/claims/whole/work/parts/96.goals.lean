/-! GROUPS: WHERE THE ITEMS GO, AND WHICH COME TOGETHER -/
theorem ro_1334 : am_ro 1497 1335 4096 := ⟨by decide +kernel, by decide +kernel, by decide, by decide⟩
theorem ro_20 : am_ro 1497 20 4096 := ⟨by decide +kernel, by decide +kernel, by decide, by decide⟩
theorem am_fl_nx {α : Type} (f g : Nat → α) (p : Nat) : am_u1 (am_fl f g p) p (f p) = am_fl f g (p + 1) := funext fun j => by
  by_cases e : j = p
  · rw [e, am_u1_at]
    exact (if_pos (Nat.lt_succ_self p)).symm
  · rw [am_u1_off _ _ e]
    unfold am_fl
    by_cases c : j < p
    · rw [if_pos c, if_pos (by omega)]
    · rw [if_neg c, if_neg (by omega)]
/-- where the item i goes by f -/
def g_go (kind : Nat) (f : Nat → Nat) (i : Nat) : Nat := if kind = 0 then f i else if kind = 1 then g_pl (g_im f (g_w i) 24) else g_r (g_im f i 24)
theorem go_x {kind : Nat} {f : Nat → Nat} (hf : a_pm f) (hk : ¬ kind = 0) (a b : Nat) : g_go kind f (a ^^^ b) = g_go kind f a ^^^ g_go kind f b := by
  unfold g_go
  rw [if_neg hk, if_neg hk, if_neg hk]
  by_cases c : kind = 1
  · rw [if_pos c, if_pos c, if_pos c, g_w_xor, im_xor hf, pl_xor]
  · rw [if_neg c, if_neg c, if_neg c, im_xor hf, g_r_xor]
theorem go_0 {kind : Nat} {f : Nat → Nat} (hk : ¬ kind = 0) : g_go kind f 0 = 0 := by
  unfold g_go
  rw [if_neg hk]
  split
  · rw [g_w_0, im_0]
    rfl
  · rw [im_0, g_r_0]
theorem go_lt {kind : Nat} {f : Nat → Nat} (hk : ¬ kind = 0) (i : Nat) : g_go kind f i < 4096 := by
  unfold g_go
  rw [if_neg hk]
  split
  · exact pl_lt _
  · exact g_r_lt _
theorem x_low : ∀ (k i : Nat), i.testBit k = true → i ^^^ 2 ^ k < i
  | 0, i, h => by
    have h1 := xor_d2 i 1
    have h2 := xor_m2 i 1
    have h3 : i % 2 = 1 := by rw [Nat.testBit_zero] at h; exact of_decide_eq_true h
    rw [show (1 : Nat) / 2 = 0 by decide, Nat.xor_zero] at h1
    show i ^^^ 1 < i
    omega
  | k + 1, i, h => by
    rw [Nat.testBit_succ] at h
    have ih := x_low k (i / 2) h
    have h1 := xor_d2 i (2 ^ (k + 1))
    have h2 := xor_m2 i (2 ^ (k + 1))
    have e1 : 2 ^ (k + 1) / 2 = 2 ^ k := by rw [Nat.pow_succ, Nat.mul_div_cancel _ (by decide)]
    have e2 : 2 ^ (k + 1) % 2 = 0 := by rw [Nat.pow_succ, Nat.mul_mod_left]
    rw [e1] at h1
    rw [e2] at h2
    omega
section JB
variable {d : Nat} {K : Option Value → am_M → Prop} {I J : Nat → Nat → Int32} {Lg : Nat → Nat → Int64} {rr : Nat → Nat → Option Nat} {n : Nat} {N kind : Nat} {ρ : Nat → Nat} {f : Nat → Nat} {a : Nat}
theorem s_assign_g (hd : 1 ≤ d) (ha : am_ro 1497 a 24) (h : K none (am_st (am_sr I 1335 (am_fl (I a) (I 1335) 24)) Lg rr n)) (hne : ¬ a = 1335) : am_AC d k_Mo_assign [.ref 1335, .ref a] (am_st I Lg rr n) K := by
  obtain ⟨d, rfl, hd1⟩ := s_up hd
  have key : ∀ p, p ≤ 24 → am_St d k_Mo_assign (am_st I Lg rr n) K 2 [some (.ref 1335), some (.ref a), some (.int (nI p))] [] (am_st (am_sr I 1335 (am_fl (I a) (I 1335) p)) Lg rr n) := by
    refine lp_up _ (fun p hp ih => ?_) ?_
    · refine am_step _ _ _ (b_Mo_assign_2 (am_gi ro_1334.g1 ⟨fun _ => am_gi ha.g1 ⟨fun _ => am_gi (oS_ro ha) ?_, fun q => ?_⟩, fun q => ?_⟩))
      · rw [ha.n, n_un (by omega), ro_1334.n]
        refine ⟨hp, am_gi ro_1334.g3 ⟨by omega, ?_⟩⟩
        rw [am_sr_off _ _ hne, am_sr_at, am_fl_nx, am_sr_sr, nI_add]
        exact ih
      · rw [ha.n] at q
        exact absurd (nI_lt hp (by decide)) q
      · rw [ro_1334.n] at q
        exact absurd (nI_lt (show p < 4096 by omega) (by decide)) q
    · refine am_step _ _ _ (b_Mo_assign_2 (am_gi ro_1334.g1 ⟨fun _ => am_gi ha.g1 ⟨fun q => ?_, fun _ => h⟩, fun _ => h⟩))
      rw [ha.n] at q
      exact absurd q (by decide)
  have k0 := key 0 (Nat.zero_le _)
  rw [am_fl_0, am_sr_id] at k0
  exact am_in _ _ _ (am_step _ _ _ (b_Mo_assign_0 k0))
theorem s_goalOf {i : Nat} (hd : 3 ≤ d) (hT : vT I) (hk : ¬ kind = 0) (e2 : I 1333 2 = nI kind) (hk3 : kind < 3) (ha : am_ro 1497 a 24) (hI : ∀ p, p < 24 → I a p = nI (f p)) (hf : a_pm f) (hi : i < 4096) (h : K (some (.int (nI (g_go kind f i)))) (am_st I Lg rr n)) : am_AC d k_Or_goalOf [.ref 1333, .ref 19, .ref a, .int (nI i)] (am_st I Lg rr n) K := by
  obtain ⟨d, rfl, hd1⟩ := s_up hd
  unfold g_go at h
  rw [if_neg hk] at h
  refine am_in _ _ _ (am_step _ _ _ (b_Or_goalOf_0 ?_))
  rw [e2]
  refine ⟨fun q => ?_, fun q => ?_⟩
  · rw [nI_eq (by omega) (by decide)] at q
    rw [if_pos q] at h
    refine am_gi (by decide +kernel) (am_obi (b := 20) (by rw [RR_sh (by decide) (by decide) (by decide)]; decide +kernel) (am_gi (oS_ro ro_20) ?_))
    rw [ro_20.n, n_un (by omega), show I 20 i = nI (g_w i) from hT.2.1.1 i hi]
    have wl := g_w_lt i
    refine ⟨hi, s_imageOf (by omega) ha hI hf.1 (by omega) ⟨_, rfl, am_step _ _ _ (b_Or_goalOf_18 (s_place (by omega) (by have := im_lt hf.1 (g_w i) 24 (Nat.le_refl _); omega) ⟨_, rfl, am_step _ _ _ (b_Or_goalOf_21 h)⟩))⟩⟩
  · rw [nI_eq (by omega) (by decide)] at q
    rw [if_neg q] at h
    exact s_imageOf (by omega) ha hI hf.1 (by omega) ⟨_, rfl, am_step _ _ _ (b_Or_goalOf_28 (am_gi (by decide +kernel) (s_Xrest (by omega) hT (im_lt hf.1 _ 24 (Nat.le_refl _)) ⟨_, rfl, am_step _ _ _ (b_Or_goalOf_31 h)⟩)))⟩
theorem s_fillGoals (hd : 4 ≤ d) (hT : vT I) (hk : ¬ kind = 0) (e2 : I 1333 2 = nI kind) (e3 : I 1333 3 = nI 4096) (hk3 : kind < 3) (ha : am_ro 1497 a 24) (hI : ∀ p, p < 24 → I a p = nI (f p)) (hf : a_pm f) (hne : ¬ a = 1335) (h : ∀ J, (∀ b, ¬ b = 1335 → J b = I b) → (∀ j, j < 4096 → J 1335 j = nI (g_go kind f j)) → K none (am_st J Lg rr n)) : am_AC d k_Or_fillGoals [.ref 1333, .ref 19, .ref a] (am_st I Lg rr n) K := by
  obtain ⟨d, rfl, hd1⟩ := s_up hd
  have key : ∀ i, i ≤ 4095 → ∀ J, (∀ b, ¬ b = 1335 → J b = I b) → (∀ j, j < i + 1 → J 1335 j = nI (g_go kind f j)) → am_St d k_Or_fillGoals (am_st I Lg rr n) K 9 [some (.ref 1333), some (.ref 19), some (.ref a), some (.int (nI (i + 1))), none] [] (am_st J Lg rr n) := by
    refine lp_up _ (fun i hi ih => ?_) ?_
    · intro J o1 o2
      have t2 : J 1333 2 = nI kind := by rw [o1 1333 (by decide), e2]
      have t3 : J 1333 3 = nI 4096 := by rw [o1 1333 (by decide), e3]
      have hTJ : vT J := hT.fr (fun b b1 b2 => o1 b (by omega)) (fun b b1 b2 => o1 b (by omega)) (by rw [o1 1469 (by decide)])
      have hIJ : ∀ p, p < 24 → J a p = nI (f p) := fun p hp => by rw [o1 a hne]; exact hI p hp
      have lo := low_lo (s := i + 1) (by omega) (by omega)
      generalize ek : m_low (i + 1) = k at lo
      have k12 : k < 12 := tb_lt (n := 12) (by omega) lo.1
      have ul : 2 ^ k < 4096 := (show 2 ^ k < 2 ^ 12 from Nat.pow_lt_pow_right (by decide) k12)
      have el : nI (i + 1) &&& (0 - nI (i + 1)) = nI (2 ^ k) := n_low (by omega) lo
      have next : ∀ J', (∀ b, ¬ b = 1335 → J' b = J b) → (∀ j, j < i + 1 → J' 1335 j = J 1335 j) → J' 1335 (i + 1) = nI (g_go kind f (i + 1)) → am_St d k_Or_fillGoals (am_st I Lg rr n) K 9 [some (.ref 1333), some (.ref 19), some (.ref a), some (.int (nI (i + 1 + 1))), none] [] (am_st J' Lg rr n) := fun J' n1 n2 n3 => ih J' (fun b hb => by rw [n1 b hb]; exact o1 b hb) (fun j hj => by
        by_cases c : j = i + 1
        · rw [c]; exact n3
        · rw [n2 j (by omega)]; exact o2 j (by omega))
      refine am_step _ _ _ (b_Or_fillGoals_9 ?_)
      rw [el, t3]
      refine ⟨fun _ => ⟨fun q => ?_, fun q => ?_⟩, fun q => absurd (nI_lt (show i + 1 < 4096 by omega) (by decide)) q⟩
      · rw [nI_eq (by omega) (by omega)] at q
        rw [← q]
        refine s_goalOf hd1 hTJ hk t2 hk3 ha hIJ hf (by omega) ⟨_, rfl, am_step _ _ _ (b_Or_fillGoals_42 ?_)⟩
        rw [n_un (by omega), nI_add]
        refine ⟨by omega, am_fg (le_same _ (le_same _ (le_same _ (le_same _ (le_int _ le_nil))))) (next _ (fun b hb => am_sr_off _ _ hb) (fun j hj => by rw [am_sr_at, am_u1_off _ _ (by omega)]) (by rw [am_sr_at, am_u1_at]))⟩
      · rw [nI_eq (by omega) (by omega)] at q
        have xl : (i + 1) ^^^ 2 ^ k < i + 1 := x_low k _ lo.1
        have u2 : 2 ^ k < i + 1 := by
          have : 2 ^ k ≤ i + 1 := Nat.ge_two_pow_of_testBit lo.1
          omega
        have ex : (i + 1) ^^^ 2 ^ k ^^^ 2 ^ k = i + 1 := by rw [Nat.xor_assoc, Nat.xor_self, Nat.xor_zero]
        have eg : g_go kind f (i + 1) = g_go kind f ((i + 1) ^^^ 2 ^ k) ^^^ g_go kind f (2 ^ k) := by rw [← go_x hf hk, ex]
        rw [n_xor, n_un (by omega), n_un (by omega), n_un (by omega), o2 _ (by omega), o2 _ (by omega), n_xor, nI_add, ← eg]
        exact ⟨by omega, by omega, by omega, am_fg (le_same _ (le_same _ (le_same _ (le_same _ (le_int _ le_nil))))) (next _ (fun b hb => am_sr_off _ _ hb) (fun j hj => by rw [am_sr_at, am_u1_off _ _ (by omega)]) (by rw [am_sr_at, am_u1_at]))⟩
    · intro J o1 o2
      have t3 : J 1333 3 = nI 4096 := by rw [o1 1333 (by decide), e3]
      refine am_step _ _ _ (b_Or_fillGoals_9 ?_)
      rw [t3]
      exact ⟨fun q => absurd q (by decide), fun _ => h J o1 o2⟩
  refine am_in _ _ _ (am_step _ _ _ (b_Or_fillGoals_0 ⟨by decide, key 0 (by decide) _ (fun b hb => am_sr_off _ _ hb) (fun j hj => ?_)⟩))
  have : j = 0 := by omega
  rw [this, am_sr_at, show am_un (nI 0) = 0 from rfl, am_u1_at, go_0 hk]
end JB
