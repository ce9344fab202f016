/-! WHAT THE CONSTRUCTORS MAKE, VIII: the named moves -/
def g_nm (m p : Nat) : Nat := [1, 2, 3, 4, 5, 6, 7, 8, 9, 10, 11, 12, 13, 14, 15, 16, 17, 18, 19, 20, 21, 22, 0, 23, 0, 2, 4, 6, 8, 10, 12, 14, 16, 18, 20, 22, 1, 3, 5, 7, 9, 11, 13, 15, 17, 19, 21, 23, 23, 22, 11, 15, 17, 9, 19, 13, 20, 5, 16, 2, 21, 7, 18, 3, 10, 4, 14, 6, 8, 12, 1, 0, 0, 18, 6, 3, 2, 21, 1, 5, 16, 12, 7, 19, 8, 9, 17, 15, 13, 11, 4, 22, 10, 20, 14, 23, 0, 1, 2, 3, 4, 5, 6, 7, 8, 9, 10, 11, 12, 13, 14, 15, 16, 17, 18, 19, 20, 21, 22, 23].getD (24 * m + p) 0
/-- before the places 0 and 23 of over are set -/
def g_nn (m p : Nat) : Nat := if m = 2 ∧ p = 0 then 0 else g_nm m p
def g_ov (p q : Nat) : Nat := itn (fun j x => if p * j % 23 = 22 then j else x) p q
theorem nm_0 : ∀ p, p < 23 → (nI p + nI 1) - (nI p + nI 1) / (nI 23) * (nI 23) = nI (g_nn 0 p) := by decide +kernel
theorem nm_1 : ∀ p, p < 23 → (nI 2 * nI p) - (nI 2 * nI p) / (nI 23) * (nI 23) = nI (g_nn 1 p) := by decide +kernel
theorem nm_3a : ∀ p, p < 23 → ((nI 340830 >>> (nI p &&& 31)) &&& nI 1) = nI 1 → (((nI 18 * nI p) * nI p) * nI p) - (((nI 18 * nI p) * nI p) * nI p) / (nI 23) * (nI 23) = nI (g_nn 3 p) := by decide +kernel
theorem nm_3b : ∀ p, p < 23 → ¬ ((nI 340830 >>> (nI p &&& 31)) &&& nI 1) = nI 1 → (((nI 9 * nI p) * nI p) * nI p) - (((nI 9 * nI p) * nI p) * nI p) / (nI 23) * (nI 23) = nI (g_nn 3 p) := by decide +kernel
theorem nm_2 : ∀ p, p < 23 → g_ov p 23 = g_nn 2 p := by decide +kernel
theorem nm_2q : ∀ p, p < 23 → ∀ q, q < 23 → (nI p * nI q) - (nI p * nI q) / (nI 23) * (nI 23) = nI (p * q % 23) := by decide +kernel
theorem nm_4 : ∀ p, p < 24 → g_nm 4 p = p := by decide +kernel
theorem nm_23 : g_nm 0 23 = 23 ∧ g_nm 1 23 = 23 ∧ g_nm 3 23 = 23 ∧ g_nm 2 0 = 23 ∧ g_nm 2 23 = 0 := by decide +kernel
theorem rows_named : ∀ m, m < 5 → sh_t (14 + m) = 0 ∧ sh_n (14 + m) = 24 := by decide +kernel
/-- the named moves before p are there -/
def nm_I (I : Nat → Nat → Int32) (p : Nat) (J : Nat → Nat → Int32) : Prop := (∀ m, m < 5 → ∀ x, x < 24 → J (14 + m) x = nI (if x < p then g_nn m x else x)) ∧ ∀ b, b < 14 ∨ 19 ≤ b → J b = I b
/-- and the place p, and over's place p as far as q -/
def nm_IQ (I : Nat → Nat → Int32) (p q : Nat) (J : Nat → Nat → Int32) : Prop := (∀ m, m < 5 → ∀ x, x < 24 → J (14 + m) x = nI (if x < p then g_nn m x else if x = p then (if m = 2 then g_ov p q else g_nn m p) else x)) ∧ ∀ b, b < 14 ∨ 19 ≤ b → J b = I b
theorem nm_row {J : Nat → Nat → Int32} {m m2 p x : Nat} {v : Int32} : am_sr J (14 + m2) (am_u1 (J (14 + m2)) p v) (14 + m) x = if m = m2 ∧ x = p then v else J (14 + m) x := by
  by_cases h : m = m2
  · subst h
    rw [am_sr_at]
    by_cases h2 : x = p
    · subst h2
      rw [am_u1_at, if_pos ⟨rfl, rfl⟩]
    · rw [am_u1_off _ _ h2, if_neg (fun q => h2 q.2)]
  · rw [am_sr_off _ _ (by omega), if_neg (fun q => h q.1)]
theorem nm_put {I J : Nat → Nat → Int32} {p : Nat} (hp : p < 23) (h : nm_I I p J) :
    nm_IQ I p 0 (am_sr (am_sr (am_sr J 14 (am_u1 (J 14) p (nI (g_nn 0 p)))) 15 (am_u1 (am_sr J 14 (am_u1 (J 14) p (nI (g_nn 0 p))) 15) p (nI (g_nn 1 p)))) 17 (am_u1 (am_sr (am_sr J 14 (am_u1 (J 14) p (nI (g_nn 0 p)))) 15 (am_u1 (am_sr J 14 (am_u1 (J 14) p (nI (g_nn 0 p))) 15) p (nI (g_nn 1 p))) 17) p (nI (g_nn 3 p)))) := by
  refine ⟨fun m hm x hx => ?_, fun b hb => ?_⟩
  · have e3 := nm_row (J := am_sr (am_sr J 14 (am_u1 (J 14) p (nI (g_nn 0 p)))) 15 (am_u1 (am_sr J 14 (am_u1 (J 14) p (nI (g_nn 0 p))) 15) p (nI (g_nn 1 p)))) (m := m) (m2 := 3) (p := p) (x := x) (v := nI (g_nn 3 p))
    have e2 := nm_row (J := am_sr J 14 (am_u1 (J 14) p (nI (g_nn 0 p)))) (m := m) (m2 := 1) (p := p) (x := x) (v := nI (g_nn 1 p))
    have e1 := nm_row (J := J) (m := m) (m2 := 0) (p := p) (x := x) (v := nI (g_nn 0 p))
    have e0 := h.1 m hm x hx
    rw [e0] at e1
    have e2 := e2.trans (by rw [show am_sr J 14 (am_u1 (J 14) p (nI (g_nn 0 p))) (14 + m) x = _ from e1])
    refine e3.trans ?_
    rw [show am_sr (am_sr J 14 (am_u1 (J 14) p (nI (g_nn 0 p)))) 15 (am_u1 (am_sr J 14 (am_u1 (J 14) p (nI (g_nn 0 p))) 15) p (nI (g_nn 1 p))) (14 + m) x = _ from e2]
    by_cases h1 : x = p
    · subst h1
      rw [if_neg (Nat.lt_irrefl x), if_neg (Nat.lt_irrefl x), if_pos rfl]
      have hm5 : m = 0 ∨ m = 1 ∨ m = 2 ∨ m = 3 ∨ m = 4 := by omega
      rcases hm5 with rfl | rfl | rfl | rfl | rfl
      · simp
      · simp
      · simp [show g_ov x 0 = x from rfl]
      · simp
      · have : g_nn 4 x = x := by
          unfold g_nn
          rw [if_neg (fun q => absurd q.1 (by decide)), nm_4 x hx]
        simp [this]
    · rw [if_neg (fun q => h1 q.2), if_neg (fun q => h1 q.2), if_neg (fun q => h1 q.2), if_neg h1]
  · rw [am_sr_off _ _ (by omega), am_sr_off _ _ (by omega), am_sr_off _ _ (by omega), h.2 b hb]
theorem nm_IQ.same {I J : Nat → Nat → Int32} {p q : Nat} (h : nm_IQ I p q J) (hn : ¬ p * q % 23 = 22) : nm_IQ I p (q + 1) J := by
  refine ⟨fun m hm x hx => ?_, h.2⟩
  have e : g_ov p (q + 1) = g_ov p q := if_neg hn
  rw [e]
  exact h.1 m hm x hx
theorem nm_IQ.put {I J : Nat → Nat → Int32} {p q : Nat} (h : nm_IQ I p q J) (hn : p * q % 23 = 22) : nm_IQ I p (q + 1) (am_sr J 16 (am_u1 (J 16) p (nI q))) := by
  refine ⟨fun m hm x hx => ?_, fun b hb => ?_⟩
  · have e : g_ov p (q + 1) = q := if_pos hn
    rw [e]
    refine (nm_row (J := J) (m := m) (m2 := 2) (p := p) (x := x) (v := nI q)).trans ?_
    rw [h.1 m hm x hx]
    by_cases h1 : x = p
    · subst h1
      rw [if_neg (Nat.lt_irrefl x), if_neg (Nat.lt_irrefl x), if_pos rfl, if_pos rfl]
      by_cases h2 : m = 2
      · rw [if_pos ⟨h2, rfl⟩, if_pos h2]
      · rw [if_neg (fun q => h2 q.1), if_neg h2, if_neg h2]
    · rw [if_neg (fun q => h1 q.2), if_neg h1, if_neg h1]
  · rw [am_sr_off _ _ (by omega), h.2 b hb]
theorem nm_IQ.next {I J : Nat → Nat → Int32} {p : Nat} (hp : p < 23) (h : nm_IQ I p 23 J) : nm_I I (p + 1) J := by
  refine ⟨fun m hm x hx => ?_, h.2⟩
  rw [h.1 m hm x hx]
  by_cases h1 : x = p
  · subst h1
    rw [if_neg (Nat.lt_irrefl x), if_pos rfl, if_pos (Nat.lt_succ_self x)]
    by_cases h2 : m = 2
    · subst h2
      rw [if_pos rfl, nm_2 x hp]
    · rw [if_neg h2]
  · by_cases h2 : x < p
    · rw [if_pos h2, if_pos (by omega)]
    · rw [if_neg h2, if_neg h1, if_neg (by omega)]
/-- the named moves are there -/
def nm_P (J : Nat → Nat → Int32) : Prop := ∀ m, m < 5 → ∀ x, x < 24 → J (14 + m) x = nI (g_nm m x)
theorem nm_I.all {I J : Nat → Nat → Int32} (h : nm_I I 23 J) : nm_P (am_sr (am_sr J 16 (am_u1 (J 16) 0 (nI 23))) 16 (am_u1 (am_sr J 16 (am_u1 (J 16) 0 (nI 23)) 16) 23 (nI 0))) := by
  intro m hm x hx
  refine (nm_row (J := am_sr J 16 (am_u1 (J 16) 0 (nI 23))) (m := m) (m2 := 2) (p := 23) (x := x) (v := nI 0)).trans ?_
  rw [show am_sr J 16 (am_u1 (J 16) 0 (nI 23)) (14 + m) x = _ from nm_row (J := J) (m := m) (m2 := 2) (p := 0) (x := x) (v := nI 23), h.1 m hm x hx]
  obtain ⟨q0, q1, q3, q2, q5⟩ := nm_23
  by_cases h1 : m = 2 ∧ x = 23
  · rw [if_pos h1, h1.1, h1.2, q5]
  · rw [if_neg h1]
    by_cases h2 : m = 2 ∧ x = 0
    · rw [if_pos h2, h2.1, h2.2, q2]
    · rw [if_neg h2]
      unfold g_nn
      rw [if_neg h2]
      by_cases h3 : x < 23
      · rw [if_pos h3]
      · rw [if_neg h3]
        have : x = 23 := by omega
        subst this
        have hm4 : m = 0 ∨ m = 1 ∨ m = 3 ∨ m = 4 := by omega
        rcases hm4 with rfl | rfl | rfl | rfl
        · rw [q0]
        · rw [q1]
        · rw [q3]
        · rw [nm_4 23 (by decide)]
section G6
variable {d : Nat} {K : Option Value → am_M → Prop} {I : Nat → Nat → Int32} {Lg : Nat → Nat → Int64} {R : Nat → Nat → Option Nat} {z ss n : Nat}
theorem s_fillNamed (hd : 2 ≤ d) (hz : 19 ≤ z) (hR : ∀ m, m < 5 → R 13 m = some (14 + m)) (h : ∀ J, nm_P J → (∀ b, b < 14 ∨ 19 ≤ b → J b = I b) → K none (J, Lg, R, z, ss, n)) : am_AC d k_Mo_fillNamed [.ref 13] (I, Lg, R, z, ss, n) K := by
  obtain ⟨d, rfl, hd1⟩ := s_up hd
  have g5 : ((Nat.beq (sh_t 13) 3 && Nat.ble (13 + 1) z) || (Nat.beq (sh_t 13) 4 && Nat.ble (13 + 1) z) || (Nat.beq (sh_t 13) 5 && Nat.ble (13 + 1) z)) = true := by
    rw [Nat.ble_eq_true_of_le (show 13 + 1 ≤ z by omega)]
    rfl
  have bq : ∀ m, m < 5 → am_un (nI m) < am_lS n 13 := fun m hm => by
    rw [n_un (by omega)]
    exact hm
  have q5 := rows_named
  have ro : ∀ m, m < 5 → am_ro z (14 + m) 24 := fun m hm => ⟨(q5 m hm).1, (q5 m hm).2, by omega, by omega⟩
  have kb : ∀ p, p ≤ 23 → ∀ J, nm_I I p J → am_St d k_Mo_fillNamed (I, Lg, R, z, ss, n) K 21 [some (.ref 13), some (.int (nI p)), none] [] (J, Lg, R, z, ss, n) := by
    refine lp_up _ (fun p hp ih => ?_) ?_
    · intro J hJ
      have kq : ∀ q, q ≤ 23 → ∀ J, nm_IQ I p q J → am_St d k_Mo_fillNamed (I, Lg, R, z, ss, n) K 82 [some (.ref 13), some (.int (nI p)), some (.int (nI q))] [] (J, Lg, R, z, ss, n) := by
        refine lp_up _ (fun q hq ihq => ?_) ?_
        · intro J hJ
          refine am_step _ _ _ (d_Mo_fillNamed_82 ⟨fun _ => ⟨fun q2 => am_gi g5 ⟨?_, am_obi (hR 2 (by decide)) (am_gi (ro 2 (by decide)).g3 ⟨?_, ?_⟩)⟩, fun q2 => ?_⟩, fun q2 => absurd (nI_lt hq (by decide)) q2⟩)
          · exact bq 2 (by decide)
          · rw [(ro 2 (by decide)).n, n_un (by omega)]
            omega
          · rw [nm_2q p hp q hq, nI_eq (by omega) (by decide)] at q2
            rw [n_un (by omega), nI_add]
            exact ihq _ (hJ.put q2)
          · rw [nm_2q p hp q hq, nI_eq (by omega) (by decide)] at q2
            rw [nI_add]
            exact ihq _ (hJ.same q2)
        · intro J hJ
          refine am_step _ _ _ (d_Mo_fillNamed_82 ⟨fun q2 => absurd q2 (by decide), fun _ => ?_⟩)
          rw [nI_add]
          exact am_fg (le_same _ (le_same _ (le_int _ le_nil))) (ih J (hJ.next hp))
      have k0 := kq 0 (by decide) _ (nm_put hp hJ)
      have bp : ∀ m, m < 5 → am_un (nI p) < am_lS n (14 + m) := fun m hm => by
        rw [(ro m hm).n, n_un (by omega)]
        omega
      refine am_step _ _ _ (d_Mo_fillNamed_21 ⟨fun _ => am_gi g5 ⟨bq 0 (by decide), am_obi (hR 0 (by decide)) (am_gi (ro 0 (by decide)).g3 ⟨bp 0 (by decide), am_gi g5 ⟨bq 1 (by decide), am_obi (hR 1 (by decide)) (am_gi (ro 1 (by decide)).g3 ⟨bp 1 (by decide), am_gi g5 ⟨bq 3 (by decide), am_obi (hR 3 (by decide)) ⟨fun q2 => am_gi (ro 3 (by decide)).g3 ⟨bp 3 (by decide), ?_⟩, fun q2 => am_gi (ro 3 (by decide)).g3 ⟨bp 3 (by decide), ?_⟩⟩⟩⟩)⟩⟩)⟩, fun q2 => absurd (nI_lt hp (by decide)) q2⟩)
      · rw [nm_0 p hp, nm_1 p hp, nm_3a p hp q2, n_un (by omega)]
        exact k0
      · rw [nm_0 p hp, nm_1 p hp, nm_3b p hp q2, n_un (by omega)]
        exact k0
    · intro J hJ
      refine am_step _ _ _ (d_Mo_fillNamed_21 ⟨fun q2 => absurd q2 (by decide), fun _ => am_gi g5 ⟨bq 2 (by decide), am_obi (hR 2 (by decide)) (am_gi (ro 2 (by decide)).g3 ⟨?_, am_gi g5 ⟨bq 2 (by decide), am_obi (hR 2 (by decide)) (am_gi (ro 2 (by decide)).g3 ⟨?_, ?_⟩)⟩⟩)⟩⟩)
      · rw [(ro 2 (by decide)).n]
        decide
      · rw [(ro 2 (by decide)).n]
        decide
      · refine h _ hJ.all (fun b hb => ?_)
        show am_sr (am_sr J 16 _) 16 _ b = _
        rw [am_sr_off _ _ (by omega), am_sr_off _ _ (by omega), hJ.2 b hb]
  have ka : ∀ m, m ≤ 5 → ∀ J, (∀ k, k < m → ∀ x, x < 24 → J (14 + k) x = nI x) → (∀ b, b < 14 ∨ 19 ≤ b → J b = I b) → am_St d k_Mo_fillNamed (I, Lg, R, z, ss, n) K 2 [some (.ref 13), some (.int (nI m)), none] [] (J, Lg, R, z, ss, n) := by
    refine lp_up _ (fun m hm ih => ?_) ?_
    · intro J h1 h2
      refine am_step _ _ _ (d_Mo_fillNamed_2 ⟨fun _ => am_gi g5 ⟨?_, ?_⟩, fun q2 => absurd (nI_lt hm (by decide)) q2⟩)
      · rw [n_un (by omega)]
        exact hm
      · rw [n_un (by omega)]
        refine am_obi (hR m hm) (s_makeSame hd1 (ro m hm) ⟨rfl, am_step _ _ _ (d_Mo_fillNamed_13 ?_)⟩)
        rw [nI_add]
        refine ih _ (fun k hk x hx => ?_) (fun b hb => ?_)
        · by_cases e : k = m
          · subst e
            rw [am_sr_at, am_fl_in _ _ hx]
          · rw [am_sr_off _ _ (by omega), h1 k (by omega) x hx]
        · rw [am_sr_off _ _ (by omega), h2 b hb]
    · intro J h1 h2
      refine am_step _ _ _ (d_Mo_fillNamed_2 ⟨fun q2 => absurd q2 (by decide), fun _ => ?_⟩)
      exact kb 0 (by decide) J ⟨fun m hm x hx => by rw [if_neg (Nat.not_lt_zero x)]; exact h1 m hm x hx, h2⟩
  exact am_in _ _ _ (am_step _ _ _ (d_Mo_fillNamed_0 (ka 0 (by decide) I (fun k hk => absurd hk (Nat.not_lt_zero _)) fun _ _ => rfl)))
end G6
