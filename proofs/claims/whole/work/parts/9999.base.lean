/-! THE BASE: the places of a set first, then all others -/
theorem cnt_up (P : Nat → Bool) (a : Nat) : ∀ r, g_cnt P a ≤ g_cnt P (a + r)
  | 0 => Nat.le_refl _
  | r + 1 => by
    have := cnt_up P a r
    rw [← Nat.add_assoc, cnt_s]
    split <;> omega
theorem cnt_lt {P : Nat → Bool} {a c : Nat} (h : a < c) (hp : P a = true) : g_cnt P a < g_cnt P c := by
  have e : g_cnt P (a + 1) = g_cnt P a + 1 := by rw [cnt_s, if_pos hp]
  have := cnt_up P (a + 1) (c - (a + 1))
  rw [show a + 1 + (c - (a + 1)) = c by omega] at this
  omega
theorem cnt_not (P : Nat → Bool) : ∀ N, g_cnt P N + g_cnt (fun p => !P p) N = N
  | 0 => rfl
  | N + 1 => by
    have := cnt_not P N
    rw [cnt_s, cnt_s]
    cases P N
    · rw [if_neg (by decide), if_pos (by decide)]
      omega
    · rw [if_pos rfl, if_neg (by decide)]
      omega
def rk (P : Nat → Bool) (p : Nat) : Nat := if p < 24 then (if P p then g_cnt P p else g_cnt P 24 + g_cnt (fun p => !P p) p) else p
theorem rkq_in {P : Nat → Bool} {p : Nat} (hp : p < 24) (h : P p = true) : rk P p = g_cnt P p ∧ g_cnt P p < g_cnt P 24 := by
  unfold rk
  rw [if_pos hp, if_pos h]
  exact ⟨rfl, cnt_lt hp h⟩
theorem rkq_out {P : Nat → Bool} {p : Nat} (hp : p < 24) (h : ¬ P p = true) : rk P p = g_cnt P 24 + g_cnt (fun p => !P p) p ∧ g_cnt P 24 + g_cnt (fun p => !P p) p < 24 := by
  unfold rk
  rw [if_pos hp, if_neg h]
  have h2 : (fun p => !P p) p = true := by
    show (!P p) = true
    rw [Bool.eq_false_iff.mpr h]
    rfl
  have := cnt_lt (P := fun p => !P p) hp h2
  have := cnt_not P 24
  exact ⟨rfl, by omega⟩
theorem rkq_m (P : Nat → Bool) : pe_m (rk P) := by
  have c24 := cnt_le P 24
  refine ⟨⟨fun p hp => ?_, fun p q hp hq e => ?_⟩, fun p hp => if_neg (by omega)⟩
  · by_cases h : P p = true
    · have := rkq_in hp h
      omega
    · have := rkq_out hp h
      omega
  · by_cases h : P p = true
    · have a := rkq_in hp h
      by_cases h2 : P q = true
      · have c := rkq_in hq h2
        rcases Nat.lt_trichotomy p q with l | l | l
        · have := cnt_lt l h
          omega
        · exact l
        · have := cnt_lt l h2
          omega
      · have c := rkq_out hq h2
        omega
    · have a := rkq_out hp h
      by_cases h2 : P q = true
      · have c := rkq_in hq h2
        omega
      · have c := rkq_out hq h2
        have n1 : (fun p => !P p) p = true := by
          show (!P p) = true
          rw [Bool.eq_false_iff.mpr h]
          rfl
        have n2 : (fun p => !P p) q = true := by
          show (!P q) = true
          rw [Bool.eq_false_iff.mpr h2]
          rfl
        rcases Nat.lt_trichotomy p q with l | l | l
        · have := cnt_lt (P := fun p => !P p) l n1
          omega
        · exact l
        · have := cnt_lt (P := fun p => !P p) l n2
          omega
noncomputable def bs (f : Nat) : Nat → Nat := pe_i (rk fun p => f.testBit p)
theorem bs_m (f : Nat) : pe_m (bs f) := pe_i_m (rkq_m _)
theorem bs_in {f i : Nat} (hi : i < 24) : f.testBit (bs f i) = true ↔ i < g_cnt (fun p => f.testBit p) 24 := by
  have e := pe_i_r (rkq_m fun p => f.testBit p) i
  have l := (bs_m f).1.1 i hi
  have e : rk (fun p => f.testBit p) (bs f i) = i := e
  constructor
  · intro h
    have := rkq_in (P := fun p => f.testBit p) l h
    omega
  · intro h
    refine Classical.byContradiction fun c => ?_
    have := rkq_out (P := fun p => f.testBit p) l c
    omega
/-- how many have been put after k steps -/
def fi (f k : Nat) : Nat := itn (fun k c => if f.testBit (k % 24) = decide (k < 24) then c + 1 else c) 0 k
theorem fi_s (f k : Nat) : fi f (k + 1) = if f.testBit (k % 24) = decide (k < 24) then fi f k + 1 else fi f k := rfl
theorem fi_1 (f : Nat) : ∀ k, k ≤ 24 → fi f k = g_cnt (fun p => f.testBit p) k
  | 0, _ => rfl
  | k + 1, h => by
    rw [fi_s, fi_1 f k (by omega), cnt_s, Nat.mod_eq_of_lt (by omega), decide_eq_true (show k < 24 by omega)]
theorem fi_2 (f : Nat) : ∀ k, k ≤ 24 → fi f (24 + k) = g_cnt (fun p => f.testBit p) 24 + g_cnt (fun p => !f.testBit p) k
  | 0, _ => fi_1 f 24 (Nat.le_refl _)
  | k + 1, h => by
    rw [← Nat.add_assoc, fi_s, fi_2 f k (by omega), cnt_s (fun p => !f.testBit p) k, Nat.add_mod_left, Nat.mod_eq_of_lt (show k < 24 by omega), decide_eq_false (show ¬ 24 + k < 24 by omega)]
    cases f.testBit k
    · rw [if_pos rfl, if_pos (by decide)]
      omega
    · rw [if_neg (by decide), if_neg (by decide)]
theorem fi_48 (f : Nat) : fi f 48 = 24 := (fi_2 f 24 (Nat.le_refl _)).trans (cnt_not _ 24)
theorem fi_at {f k : Nat} (hk : k < 48) (h : f.testBit (k % 24) = decide (k < 24)) : fi f k < 24 ∧ bs f (fi f k) = k % 24 := by
  by_cases c : k < 24
  · rw [Nat.mod_eq_of_lt c, decide_eq_true c] at h
    have := rkq_in (P := fun p => f.testBit p) c h
    have c24 := cnt_le (fun p => f.testBit p) 24
    rw [fi_1 f k (by omega), Nat.mod_eq_of_lt c, ← this.1]
    exact ⟨by omega, pe_i_l (rkq_m _) k⟩
  · have e : k = 24 + (k - 24) := by omega
    have e2 : k % 24 = k - 24 := by omega
    rw [e2, decide_eq_false c] at h
    have := rkq_out (P := fun p => f.testBit p) (show k - 24 < 24 by omega) (by rw [h]; decide)
    rw [e2]
    rw [e, fi_2 f (k - 24) (by omega), show 24 + (k - 24) - 24 = k - 24 by omega, ← this.1]
    exact ⟨by omega, pe_i_l (rkq_m _) _⟩
theorem fi_le (f : Nat) : ∀ k, fi f k ≤ k
  | 0 => Nat.le_refl _
  | k + 1 => by
    have := fi_le f k
    rw [fi_s]
    split <;> omega
/-! the chain at its beginning -/
def t_0 (b : Nat → Nat) : c_T := (fun _ => 1, fun k => 2 ^ b k, fun _ => 0, fun k _ => b k, fun _ _ => pe_1, fun _ _ => pe_1)
section BE
variable {b : Nat → Nat}
theorem t0_D {k q : Nat} : t_D (t_0 b) k q ↔ q = b k := by
  unfold t_D t_0
  simp only []
  rw [tb_p2, decide_eq_true_iff]
  exact eq_comm
theorem t0_u {k q : Nat} : t_u (t_0 b) k q = pe_1 := pe_i1
theorem t0_w (hb : pe_m b) : cw b (t_0 b) := by
  refine ⟨⟨hb.1, fun k hk => ⟨t0_D.mpr rfl, t0_u, fun q hq => ?_⟩⟩, rfl, fun k hk => ⟨Nat.pow_lt_pow_right (by decide) (hb.1.1 k hk), ⟨fun a ha => t0_D.mpr rfl, fun a c ha hc _ => ?_, fun q hq => ⟨0, Nat.lt_succ_self 0, (t0_D.mp hq).symm⟩⟩, Nat.zero_le _, fun q hq => ⟨pe_1_m, by rw [t0_u]; exact pvb_1⟩, fun a ha => absurd ha (Nat.not_lt_zero a)⟩⟩
  · have e := t0_D.mp hq
    rw [t0_u, e]
    exact ⟨hb.1.1 k hk, pe_1_m, rfl, fun _ _ => rfl⟩
  · have ha : a < 1 := ha
    have hc : c < 1 := hc
    omega
theorem t0_S {k : Nat} {f : Nat → Nat} : ¬ t_S (t_0 b) k f := fun ⟨a, h, _⟩ => absurd h (Nat.not_lt_zero a)
theorem t0_g (hb : pe_m b) : gd b (t_0 b) 24 := by
  have key : ∀ n, cl b (t_D (t_0 b)) (t_u (t_0 b)) (t_S (t_0 b)) n := fun n => by
    induction n with
    | zero => exact fun g => t0_S
    | succ n ih => exact ⟨ih, fun g hg => absurd hg t0_S, fun g q hg => absurd hg t0_S, fun q _ => by rw [t0_u]; exact ge_1, fun g hg => absurd hg t0_S⟩
  exact ⟨key 24, fun j _ hj => pr_pos (t0_w hb).1 (fun k hk => ((t0_w hb).2.2 k hk).2.1) _ (by omega)⟩
end BE
