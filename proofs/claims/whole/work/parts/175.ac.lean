/-! CALLS OF A DEPTH -/
/-- a truth value that is returned is 0 or 1 -/
def am_zq (b : Bool) (v : Option Value) (p : Prop) : Prop := match b with
  | false => p
  | true => match v with
    | some (.int x) => am_g (decide (x = 0) || decide (x = 1)) p
    | _ => False
/-- a call of depth d -/
def am_AC : Nat → am_C
  | 0 => fun _ _ _ _ => False
  | d + 1 => fun k as M Q => am_g (Nat.ble (am_loc as).length (am_mL k)) (am_WP am_mt (am_AC d) (am_tb k) (M.2.2.2.1 + (am_mt k).2.2.2.1) (M.2.2.2.2.1 + (am_mt k).2.2.2.2) (fun v M' => am_zq (am_bz k) v (cond (Nat.beq (am_mt k).2.2.2.1 0) (Q v M') ((M'.2.2.2.1 = M.2.2.2.1 + (am_mt k).2.2.2.1 ∧ M'.2.2.2.2.1 = M.2.2.2.2.1 + (am_mt k).2.2.2.2) ∧ Q v M'))) 0 (am_ent (am_mL k) as) [] M)
theorem am_zq_mono {b : Bool} {v : Option Value} {p q : Prop} (h : p → q) : am_zq b v p → am_zq b v q := by
  unfold am_zq
  split
  · exact h
  · split
    · exact am_g_mono h
    · exact id
theorem am_AC_mono : ∀ d : Nat, am_CM (am_AC d) (am_AC d)
  | 0 => fun _ _ _ _ _ _ h => h
  | d + 1 => fun k as M Q Q' hQ => am_g_mono fun h => am_WP_mono (am_AC_mono d) (fun v M' => am_zq_mono (am_cond_mono (hQ v M') (And.imp id (hQ v M')))) h
theorem am_AC_up : ∀ d : Nat, am_CM (am_AC d) (am_AC (d + 1))
  | 0 => fun _ _ _ _ _ _ h => h.elim
  | d + 1 => fun k as M Q Q' hQ => am_g_mono fun h => am_WP_mono (am_AC_up d) (fun v M' => am_zq_mono (am_cond_mono (hQ v M') (And.imp id (hQ v M')))) h
/-- more depth does no harm -/
theorem am_AC_le {d e : Nat} (h : d ≤ e) {k : Nat} {as : List Value} {M : am_M} {Q : Option Value → am_M → Prop} (q : am_AC d k as M Q) : am_AC e k as M Q := by
  induction e with
  | zero => cases Nat.le_zero.mp h; exact q
  | succ e ih =>
    rcases Nat.lt_or_ge d (e + 1) with h1 | h1
    · exact am_AC_up e _ _ _ _ _ (fun _ _ => id) (ih (Nat.le_of_lt_succ h1))
    · have : d = e + 1 := Nat.le_antisymm h h1
      subst this
      exact q
theorem am_AC_post {d : Nat} {k : Nat} {as : List Value} {M : am_M} {Q Q' : Option Value → am_M → Prop} (h : ∀ v M', Q v M' → Q' v M') (q : am_AC d k as M Q) : am_AC d k as M Q' := am_AC_mono d _ _ _ _ _ h q
