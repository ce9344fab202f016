/-! CALLS OF A DEPTH -/
/-- a truth value that is returned is 0 or 1 -/
def am_zq (b : Bool) (v : Option Value) (p : Prop) : Prop := match b with
  | false => p
  | true => match v with
    | some (.int x) => am_g (decide (x = 0) || decide (x = 1)) p
    | _ => False
/-- what a method's return owes -/
def am_R (k : Nat) (M : am_M) (Q : Option Value → am_M → Prop) : Option Value → am_M → Prop := fun v M' => am_zq (am_bz k) v (cond (Nat.beq (am_mt k).2.2.2.1 0) (Q v M') ((M'.2.2.2.1 = M.2.2.2.1 + (am_mt k).2.2.2.1 ∧ M'.2.2.2.2.1 = M.2.2.2.2.1 + (am_mt k).2.2.2.2) ∧ Q v M'))
/-- a place within method k, called with the memory M -/
def am_W (C : am_C) (k : Nat) (M : am_M) (Q : Option Value → am_M → Prop) : am_K := am_WP am_mt C (am_tb k) (M.2.2.2.1 + (am_mt k).2.2.2.1) (M.2.2.2.2.1 + (am_mt k).2.2.2.2) (am_R k M Q)
/-- a call of depth d -/
def am_AC : Nat → am_C
  | 0 => fun _ _ _ _ => False
  | d + 1 => fun k as M Q => am_g (Nat.ble (am_loc as).length (am_mL k)) (am_W (am_AC d) k M Q 0 (am_ent (am_mL k) as) [] M)
/-- a place within method k, whose calls are of depth d -/
abbrev am_St (d k : Nat) (M : am_M) (Q : Option Value → am_M → Prop) : am_K := am_W (am_AC d) k M Q
/-- the memory when all is made -/
abbrev am_st (I : Nat → Nat → Int32) (Lg : Nat → Nat → Int64) (rr : Nat → Nat → Option Nat) (n : Nat) : am_M := (I, Lg, RR rr, sh_Z, sh_S, n)
/-- an answer that is an int, a long, a reference, none -/
abbrev am_qi (K : Int32 → am_M → Prop) : Option Value → am_M → Prop := fun v M => ∃ x : Int32, v = some (.int x) ∧ K x M
abbrev am_ql (K : Int64 → am_M → Prop) : Option Value → am_M → Prop := fun v M => ∃ x : Int64, v = some (.long x) ∧ K x M
abbrev am_qr (K : Nat → am_M → Prop) : Option Value → am_M → Prop := fun v M => ∃ x : Nat, v = some (.ref x) ∧ K x M
abbrev am_qv (K : am_M → Prop) : Option Value → am_M → Prop := fun v M => v = none ∧ K M
theorem am_zq_mono {b : Bool} {v : Option Value} {p q : Prop} (h : p → q) : am_zq b v p → am_zq b v q := by
  unfold am_zq
  split
  · exact h
  · split
    · exact am_g_mono h
    · exact id
theorem am_R_mono {k : Nat} {M : am_M} {Q Q' : Option Value → am_M → Prop} (h : ∀ v M', Q v M' → Q' v M') (v : Option Value) (M' : am_M) : am_R k M Q v M' → am_R k M Q' v M' := am_zq_mono (am_cond_mono (h v M') (And.imp id (h v M')))
theorem am_AC_mono : ∀ d : Nat, am_CM (am_AC d) (am_AC d)
  | 0 => fun _ _ _ _ _ _ h => h
  | d + 1 => fun k as M Q Q' hQ => am_g_mono fun h => am_WP_mono (am_AC_mono d) (am_R_mono hQ) h
theorem am_AC_up : ∀ d : Nat, am_CM (am_AC d) (am_AC (d + 1))
  | 0 => fun _ _ _ _ _ _ h => h.elim
  | d + 1 => fun k as M Q Q' hQ => am_g_mono fun h => am_WP_mono (am_AC_up d) (am_R_mono hQ) h
/-- more depth does no harm -/
theorem am_AC_le {d e : Nat} (h : d ≤ e) {k : Nat} {as : List Value} {M : am_M} {Q : Option Value → am_M → Prop} (q : am_AC d k as M Q) : am_AC e k as M Q := by
  induction e with
  | zero => cases Nat.le_zero.mp h; exact q
  | succ e ih =>
    rcases Nat.lt_or_ge d (e + 1) with h1 | h1
    · exact am_AC_up e _ _ _ _ _ (fun _ _ => id) (ih (Nat.le_of_lt_succ h1))
    · have : d = e + 1 := Nat.le_antisymm h h1
      subst this
      exact q
theorem am_AC_post {d : Nat} {k : Nat} {as : List Value} {M : am_M} {Q Q' : Option Value → am_M → Prop} (h : ∀ v M', Q v M' → Q' v M') (q : am_AC d k as M Q) : am_AC d k as M Q' := am_AC_mono d _ _ _ _ _ h q
/-- stepping within a method -/
theorem am_step (d : Nat) (cuts : List Nat) (n : Nat) {k : Nat} {M0 : am_M} {Q : Option Value → am_M → Prop} {pc : Nat} {L : am_L} {st : List Value} {M : am_M} (h : am_F am_mt (am_AC d) (am_tb k) (M0.2.2.2.1 + (am_mt k).2.2.2.1) (M0.2.2.2.2.1 + (am_mt k).2.2.2.2) (am_R k M0 Q) (am_blk am_mt (am_AC d) (am_tb k) (M0.2.2.2.1 + (am_mt k).2.2.2.1) (M0.2.2.2.2.1 + (am_mt k).2.2.2.2) (am_R k M0 Q) cuts (am_St d k M0 Q) n) pc L st M) : am_St d k M0 Q pc L st M := am_go (am_AC_mono d) cuts n h
/-- entering a method -/
theorem am_in (d k : Nat) (as : List Value) {M : am_M} {Q : Option Value → am_M → Prop} (h : am_g (Nat.ble (am_loc as).length (am_mL k)) (am_St d k M Q 0 (am_ent (am_mL k) as) [] M)) : am_AC (d + 1) k as M Q := h
