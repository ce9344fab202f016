/-! WHAT THE CONSTRUCTORS MAKE, II: a history -/
/-- the layout has a state at s -/
def st_sh (s : Nat) : Prop := (sh_t s = 16 ∧ sh_n s = 3) ∧ (sh_t (s + 1) = 3 ∧ sh_n (s + 1) = 5) ∧ ∀ j, j < 5 → sh_t (s + 1 + 1 + j) = 0 ∧ sh_n (s + 1 + 1 + j) = 24
/-- the references of a state at s -/
def st_R (R : Nat → Nat → Option Nat) (s : Nat) : Prop := R s = am_u1 (fun _ => none) 0 (some (s + 1)) ∧ R (s + 1) = mk_t (s + 1) 5 ∧ ∀ j, j < 5 → R (s + 1 + 1 + j) = fun _ => none
theorem st_R.kept {R R' : Nat → Nat → Option Nat} {s : Nat} (h : st_R R s) (hk : ∀ b, s ≤ b → b < s + 7 → R' b = R b) : st_R R' s := by
  refine ⟨(hk s (by omega) (by omega)).trans h.1, (hk (s + 1) (by omega) (by omega)).trans h.2.1, fun j hj => (hk (s + 1 + 1 + j) (by omega) (by omega)).trans (h.2.2 j hj)⟩
section M2
variable {d : Nat} {K : Option Value → am_M → Prop} {I : Nat → Nat → Int32} {Lg : Nat → Nat → Int64} {R : Nat → Nat → Option Nat} {z ss n : Nat}
/-- a state more, called from method k -/
theorem s_newSt (hd : 1 ≤ d) (hz : 12 ≤ z) (hs : st_sh z) (h : ∀ I' Lg' R', mk_z 0 z 7 I I' → mk_z 0 z 7 Lg Lg' → (∀ b, b < z → R' b = R b) → (∀ b, z + 7 ≤ b → R' b = R b) → st_R R' z → K none (I', Lg', R', z + 7, ss + 128, n)) :
    am_AC d k_St_init [.ref z] (am_sr I z (fun _ => 0), am_sr Lg z (fun _ => 0), am_sr R z (fun _ => none), z + 1, ss + sh_n z, n) K := by
  obtain ⟨⟨a1, a2⟩, ⟨a3, a4⟩, a5⟩ := hs
  rw [a2]
  refine s_St_init hd a1 (by omega) hz a3 a4 a5 ?_
  intro I' Lg' R' h1 h2 h3 h4 h5 h6
  refine h I' Lg' R' ((mk_z1 z I).trans h1) ((mk_z1 z Lg).trans h2) (fun b hb => ?_) (fun b hb => ?_) ⟨?_, h5, h6⟩
  · rw [h3.1 b (by omega) (by omega), am_sr_off _ _ (by omega)]
  · rw [h3.2 b (by omega), am_sr_off _ _ (by omega)]
  · rw [h4, am_sr_at]
end M2
