/-! GROUPS: TREES OF PARENTS -/
/-- the row f holds parents whose roots are by ρ -/
def uf (f : Nat → Int32) (N : Nat) (ρ : Nat → Nat) : Prop := ∃ P : Nat → Nat, ∀ i, i < N → f i = nI (P i) ∧ P i ≤ i ∧ ρ (P i) = ρ i ∧ (P i = i → ρ i = i)
/-- ρ tells the least of each class -/
def ufr (N : Nat) (ρ : Nat → Nat) : Prop := ∀ i, i < N → ρ i ≤ i ∧ ρ (ρ i) = ρ i
def uo (I : Nat → Nat → Int32) (N : Nat) (ρ : Nat → Nat) (J : Nat → Nat → Int32) : Prop := (∀ b, ¬ b = 1334 → J b = I b) ∧ uf (J 1334) N ρ
theorem uf_fix {f : Nat → Int32} {N : Nat} {ρ : Nat → Nat} {P : Nat → Nat} (h : ∀ i, i < N → f i = nI (P i) ∧ P i ≤ i ∧ ρ (P i) = ρ i ∧ (P i = i → ρ i = i)) : ∀ i, i < N → P (ρ i) = ρ i := by
  intro i
  induction i using Nat.strongRecOn with
  | ind i ih =>
    intro hi
    obtain ⟨h1, h2, h3, h4⟩ := h i hi
    by_cases e : P i = i
    · rw [h4 e, e]
    · rw [← h3]
      exact ih (P i) (by omega) (by omega)
theorem uf_root {f : Nat → Int32} {N : Nat} {ρ : Nat → Nat} {P : Nat → Nat} (h : ∀ i, i < N → f i = nI (P i) ∧ P i ≤ i ∧ ρ (P i) = ρ i ∧ (P i = i → ρ i = i)) {i : Nat} (hi : i < N) : P i = i ↔ ρ i = i := by
  refine ⟨(h i hi).2.2.2, fun e => ?_⟩
  have := uf_fix h i hi
  rwa [e] at this
section UF
variable {d : Nat} {K : Option Value → am_M → Prop} {I J : Nat → Nat → Int32} {Lg : Nat → Nat → Int64} {rr : Nat → Nat → Option Nat} {n : Nat} {N : Nat} {ρ : Nat → Nat}
theorem s_in_out {x : Nat} (hd : 1 ≤ d) (hx : x < N) (hN : N ≤ 4096) {M : am_M} (h : K (some (.int (nI 0))) M) : am_AC d k_X_isOutside [.int (nI x), .int (nI N)] M K := by
  refine s_isOutside hd ?_
  have : m_out (nI x) (nI N) = nI 0 := by
    unfold m_out
    rw [if_neg]
    rintro (q | q)
    · exact absurd q (show ¬ nI x < nI 0 from nI_nlt (Nat.zero_le _) (by omega))
    · exact absurd (nI_lt hx (by omega)) (Int32.not_lt.mpr q)
  rw [this]
  exact h
theorem s_Or_root {i : Nat} (hd : 2 ≤ d) (hN : N ≤ 4096) (h3 : I 1333 3 = nI N) (hi : i < N) (hJ : uo I N ρ J) (h : ∀ J', uo I N ρ J' → K (some (.int (nI (ρ i)))) (am_st J' Lg rr n)) : am_AC d k_Or_root [.ref 1333, .int (nI i)] (am_st J Lg rr n) K := by
  obtain ⟨d, rfl, hd1⟩ := s_up hd
  generalize e0 : am_st J Lg rr n = M0
  have key : ∀ x t, x < N → x + t < N → ρ x = ρ i → ∀ J, uo I N ρ J → am_St d k_Or_root M0 K 4 [some (.ref 1333), some (.int (nI i)), some (.int (nI x)), some (.int (nI t)), none] [] (am_st J Lg rr n) := by
    intro x
    induction x using Nat.strongRecOn with
    | ind x ih =>
      intro t hx ht hr J hJ
      have e3 : J 1333 3 = nI N := by rw [hJ.1 1333 (by decide), h3]
      have ux : am_un (nI x) = x := n_un (by omega)
      obtain ⟨o1, P, hP⟩ := hJ
      have hJ : uo I N ρ J := ⟨o1, P, hP⟩
      obtain ⟨p1, p2, p3, p4⟩ := hP x hx
      refine am_step _ _ _ (b_Or_root_4 ?_)
      rw [e3]
      refine ⟨fun _ => s_in_out hd1 hx hN ⟨_, rfl, am_step _ _ _ (b_Or_root_20 ⟨fun _ => ?_, fun q => absurd rfl q⟩)⟩, fun q => absurd (nI_lt (show t < N by omega) (by omega)) q⟩
      rw [ux, p1, e3]
      refine ⟨by omega, fun q => ?_, fun q => ⟨by omega, ?_⟩⟩
      · rw [nI_eq (by omega) (by omega)] at q
        have := p4 q
        rw [← hr, this] at h
        exact h J hJ
      · have hne : ¬ P x = x := fun e => q (by rw [e])
        have up : am_un (nI (P x)) = P x := n_un (by omega)
        obtain ⟨q1, q2, q3, q4⟩ := hP (P x) (by omega)
        refine s_in_out hd1 (show P x < N by omega) hN ⟨_, rfl, am_step _ _ _ (b_Or_root_50 ⟨fun _ => ?_, fun q => absurd rfl q⟩)⟩
        rw [ux, up, nI_add, q1]
        refine ⟨by omega, by omega, ?_⟩
        refine am_fg (le_same _ (le_same _ (le_same _ (le_same _ (le_int _ le_nil))))) (ih (P x) (by omega) (t + 1) (by omega) (by omega) (by rw [p3, hr]) _ ⟨fun b hb => ?_, fun y => if y = x then P (P x) else P y, fun y hy => ?_⟩)
        · rw [am_sr_off _ _ hb]
          exact o1 b hb
        · rw [am_sr_at]
          dsimp only
          by_cases e : y = x
          · rw [e, if_pos rfl, am_u1_at]
            refine ⟨rfl, by omega, by rw [q3, p3], fun z => absurd z (by omega)⟩
          · rw [if_neg e, am_u1_off _ _ e]
            exact hP y hy
  have k0 := key i 0 hi (by omega) rfl J hJ
  subst e0
  exact am_in _ _ _ (am_step _ _ _ (b_Or_root_0 k0))
/-- two are joined -/
def g_jn (ρ : Nat → Nat) (a b : Nat) (x : Nat) : Nat := if ρ x = max (ρ a) (ρ b) then min (ρ a) (ρ b) else ρ x
theorem jn_r {a b : Nat} (hρ : ufr N ρ) (ha : a < N) (hb : b < N) : ufr N (g_jn ρ a b) ∧ g_jn ρ a b a = g_jn ρ a b b := by
  obtain ⟨a1, a2⟩ := hρ a ha
  obtain ⟨b1, b2⟩ := hρ b hb
  refine ⟨fun i hi => ?_, ?_⟩
  · obtain ⟨i1, i2⟩ := hρ i hi
    unfold g_jn
    by_cases c : ρ i = max (ρ a) (ρ b)
    · rw [if_pos c]
      refine ⟨by omega, ?_⟩
      have e : ρ (min (ρ a) (ρ b)) = min (ρ a) (ρ b) := by
        rcases Nat.le_total (ρ a) (ρ b) with c2 | c2
        · rw [Nat.min_eq_left c2, a2]
        · rw [Nat.min_eq_right c2, b2]
      rw [e]
      split <;> rfl
    · rw [if_neg c]
      refine ⟨i1, ?_⟩
      rw [i2, if_neg c]
  · unfold g_jn
    by_cases c : ρ a = max (ρ a) (ρ b)
    · rw [if_pos c]
      by_cases c2 : ρ b = max (ρ a) (ρ b)
      · rw [if_pos c2]
      · rw [if_neg c2]
        omega
    · rw [if_neg c]
      by_cases c2 : ρ b = max (ρ a) (ρ b)
      · rw [if_pos c2]
        omega
      · omega
theorem jn_keep {a b x y : Nat} (h : ρ x = ρ y) : g_jn ρ a b x = g_jn ρ a b y := by
  unfold g_jn
  rw [h]
theorem s_Or_join {a b : Nat} (hd : 3 ≤ d) (hN : N ≤ 4096) (h3 : I 1333 3 = nI N) (hρ : ufr N ρ) (ha : a < N) (hb : b < N) (hJ : uo I N ρ J) (h : ∀ J', uo I N (g_jn ρ a b) J' → K none (am_st J' Lg rr n)) : am_AC d k_Or_join [.ref 1333, .int (nI a), .int (nI b)] (am_st J Lg rr n) K := by
  obtain ⟨d, rfl, hd1⟩ := s_up hd
  obtain ⟨a1, a2⟩ := hρ a ha
  obtain ⟨b1, b2⟩ := hρ b hb
  refine am_in _ _ _ (am_step _ _ _ (b_Or_join_0 (s_Or_root hd1 hN h3 ha hJ fun J1 h1 => ⟨_, rfl, am_step _ _ _ (b_Or_join_5 (s_Or_root hd1 hN h3 hb h1 fun J2 h2 => ⟨_, rfl, am_step _ _ _ (b_Or_join_11 ?_)⟩))⟩)))
  have e3 : J2 1333 3 = nI N := by rw [h2.1 1333 (by decide), h3]
  rw [e3]
  refine s_in_out (by omega) (show ρ a < N by omega) hN ⟨_, rfl, am_step _ _ _ (b_Or_join_21 ⟨fun _ => ?_, fun q => absurd rfl q⟩)⟩
  rw [e3]
  refine s_in_out (by omega) (show ρ b < N by omega) hN ⟨_, rfl, am_step _ _ _ (b_Or_join_33 ⟨fun _ => ?_, fun q => absurd rfl q⟩)⟩
  have em : (if nI (ρ a) < nI (ρ b) then nI (ρ b) else nI (ρ a)) = nI (max (ρ a) (ρ b)) := by
    by_cases c : ρ a < ρ b
    · rw [if_pos (nI_lt c (by omega)), Nat.max_eq_right (by omega)]
    · rw [if_neg (nI_nlt (by omega) (by omega)), Nat.max_eq_left (by omega)]
  have en : (if nI (ρ b) < nI (ρ a) then nI (ρ b) else nI (ρ a)) = nI (min (ρ a) (ρ b)) := by
    by_cases c : ρ b < ρ a
    · rw [if_pos (nI_lt c (by omega)), Nat.min_eq_right (by omega)]
    · rw [if_neg (nI_nlt (by omega) (by omega)), Nat.min_eq_left (by omega)]
  rw [em, en, n_un (by omega)]
  refine ⟨by omega, h _ ⟨fun b hb => by rw [am_sr_off _ _ hb]; exact h2.1 b hb, ?_⟩⟩
  obtain ⟨o1, P, hP⟩ := h2
  refine ⟨fun y => if y = max (ρ a) (ρ b) then min (ρ a) (ρ b) else P y, fun y hy => ?_⟩
  obtain ⟨p1, p2, p3, p4⟩ := hP y hy
  rw [am_sr_at]
  dsimp only
  by_cases e : y = max (ρ a) (ρ b)
  · have r1 : ρ (max (ρ a) (ρ b)) = max (ρ a) (ρ b) := by
      rcases Nat.le_total (ρ a) (ρ b) with c2 | c2
      · rw [Nat.max_eq_right c2, b2]
      · rw [Nat.max_eq_left c2, a2]
    have r2 : ρ (min (ρ a) (ρ b)) = min (ρ a) (ρ b) := by
      rcases Nat.le_total (ρ a) (ρ b) with c2 | c2
      · rw [Nat.min_eq_left c2, a2]
      · rw [Nat.min_eq_right c2, b2]
    have g1 : g_jn ρ a b (max (ρ a) (ρ b)) = min (ρ a) (ρ b) := by
      unfold g_jn
      rw [r1, if_pos rfl]
    have g2 : g_jn ρ a b (min (ρ a) (ρ b)) = min (ρ a) (ρ b) := by
      unfold g_jn
      rw [r2]
      split <;> rfl
    rw [e, if_pos rfl, am_u1_at, g1, g2]
    exact ⟨rfl, by omega, rfl, fun z => z⟩
  · rw [if_neg e, am_u1_off _ _ e]
    refine ⟨p1, p2, jn_keep p3, fun z => ?_⟩
    have := p4 z
    unfold g_jn
    rw [this, if_neg e]
end UF
