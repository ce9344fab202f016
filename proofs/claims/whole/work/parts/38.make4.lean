/-! WHAT THE CONSTRUCTORS MAKE, IV: an object whose fields are rows and tables -/
/-- v is being made: w cells from z on are there as the layout has them, the references of v are F -/
def cs_P (z v w : Nat) (F : Nat → Option Nat) (I : Nat → Nat → Int32) (Lg : Nat → Nat → Int64) (R : Nat → Nat → Option Nat) (J : Nat → Nat → Int32) (L : Nat → Nat → Int64) (Q : Nat → Nat → Option Nat) : Prop :=
  mk_z 0 z w I J ∧ mk_z 0 z w Lg L ∧ (∀ b, b < z → b ≠ v → Q b = R b) ∧ (∀ b, z + w ≤ b → Q b = R b) ∧ Q v = F ∧ ∀ b, z ≤ b → b < z + w → Q b = sh_r b
section M4
variable {d : Nat} {K : Option Value → am_M → Prop} {I J : Nat → Nat → Int32} {Lg L : Nat → Nat → Int64} {R Q : Nat → Nat → Option Nat} {z v w ss n : Nat} {F : Nat → Option Nat}
theorem cs_0 (z v : Nat) (I : Nat → Nat → Int32) (Lg : Nat → Nat → Int64) (R : Nat → Nat → Option Nat) : cs_P z v 0 (R v) I Lg R I Lg R := ⟨⟨fun _ _ => rfl, fun b h1 h2 => by omega⟩, ⟨fun _ _ => rfl, fun b h1 h2 => by omega⟩, fun _ _ _ => rfl, fun _ _ => rfl, rfl, fun b h1 h2 => by omega⟩
/-- a field more: a new row -/
theorem cs_row (f : Nat) (hv : v < z) (h : cs_P z v w F I Lg R J L Q) (hr : sh_r (z + w) = fun _ => none) : cs_P z v (w + 1) (am_u1 F f (some (z + w))) I Lg R (am_sr J (z + w) fun _ => 0) (am_sr L (z + w) fun _ => 0) (am_sr (am_sr Q (z + w) fun _ => none) v (am_u1 (am_sr Q (z + w) (fun _ => none) v) f (some (z + w)))) := by
  obtain ⟨h1, h2, h3, h4, h5, h6⟩ := h
  refine ⟨h1.trans (mk_z1 _ _), h2.trans (mk_z1 _ _), fun b b1 b2 => ?_, fun b b1 => ?_, ?_, fun b b1 b2 => ?_⟩
  · rw [am_sr_off _ _ b2, am_sr_off _ _ (by omega), h3 b b1 b2]
  · rw [am_sr_off _ _ (by omega), am_sr_off _ _ (by omega), h4 b (by omega)]
  · rw [am_sr_at, am_sr_off _ _ (by omega), h5]
  · rw [am_sr_off _ _ (by omega)]
    by_cases hb : b = z + w
    · subst hb
      rw [am_sr_at, hr]
    · rw [am_sr_off _ _ hb, h6 b b1 (by omega)]
/-- a field more: a new table of k rows -/
theorem cs_tab (f k : Nat) (hv : v < z) (h : cs_P z v w F I Lg R J L Q) (hr : sh_r (z + w) = mk_t (z + w) k) (hk : ∀ j, j < k → sh_r (z + w + 1 + j) = fun _ => none) :
    cs_P z v (w + (1 + k)) (am_u1 F f (some (z + w))) I Lg R (am_zr (am_sr J (z + w) fun _ => 0) (z + w + 1) k fun _ => 0) (am_zr (am_sr L (z + w) fun _ => 0) (z + w + 1) k fun _ => 0)
      (am_sr (am_sr (am_zr Q (z + w + 1) k fun _ => none) (z + w) (mk_t (z + w) k)) v (am_u1 (am_sr (am_zr Q (z + w + 1) k fun _ => none) (z + w) (mk_t (z + w) k) v) f (some (z + w)))) := by
  obtain ⟨h1, h2, h3, h4, h5, h6⟩ := h
  refine ⟨h1.trans (mk_zm _ _ _), h2.trans (mk_zm _ _ _), fun b b1 b2 => ?_, fun b b1 => ?_, ?_, fun b b1 b2 => ?_⟩
  · rw [am_sr_off _ _ b2, am_sr_off _ _ (by omega), am_zrO _ _ (Or.inl (by omega)), h3 b b1 b2]
  · rw [am_sr_off _ _ (by omega), am_sr_off _ _ (by omega), am_zrO _ _ (Or.inr (by omega)), h4 b (by omega)]
  · rw [am_sr_at, am_sr_off _ _ (by omega), am_zrO _ _ (Or.inl (by omega)), h5]
  · rw [am_sr_off _ _ (by omega)]
    by_cases hb : b = z + w
    · subst hb
      rw [am_sr_at, hr]
    · rw [am_sr_off _ _ hb]
      rcases Nat.lt_or_ge b (z + w) with q | q
      · rw [am_zrO _ _ (Or.inl (by omega)), h6 b b1 q]
      · rw [am_zrI _ _ (by omega) (by omega)]
        have e := hk (b - (z + w + 1)) (by omega)
        rw [show z + w + 1 + (b - (z + w + 1)) = b by omega] at e
        exact e.symm
theorem s_Or_init (hd : 1 ≤ d) (h : ∀ J L Q, cs_P 1334 1333 2 (am_u1 (am_u1 (R 1333) 0 (some 1334)) 1 (some 1335)) I Lg R J L Q → ∀ s, s = ss + 8192 → K none (J, L, Q, 1336, s, n)) : am_AC d k_Or_init [.ref 1333] (I, Lg, R, 1334, ss, n) K := by
  obtain ⟨d, rfl, hd1⟩ := s_up hd
  have p0 := cs_0 1334 1333 I Lg R
  have p1 := cs_row 0 (by decide) p0 (sr_int (b := 1334) (by decide) rfl)
  have p2 := cs_row 1 (by decide) p1 (sr_int (b := 1335) (by decide) rfl)
  have e : ss + sh_n 1334 + sh_n (1334 + 1) = ss + 8192 := by
    rw [show sh_n 1334 = 4096 from rfl, show sh_n (1334 + 1) = 4096 from rfl]
  refine am_in _ _ _ (am_step _ _ _ (d_Or_init_0 (am_gi rfl ⟨⟨?_, ?_⟩, am_gi rfl (am_step _ _ _ (d_Or_init_13 (am_gi rfl ⟨⟨?_, ?_⟩, am_gi rfl (am_step _ _ _ (d_Or_init_22 ⟨⟨rfl, e⟩, h _ _ _ p2 _ e⟩))⟩)))⟩)))
  · show 1334 + 1 ≤ 1334 + 2
    decide
  · show ss + 4096 ≤ ss + 8192
    omega
  · show 1334 + 1 + 1 ≤ 1334 + 2
    decide
  · show ss + 4096 + 4096 ≤ ss + 8192
    omega
theorem s_Cy_init (hd : 1 ≤ d) (h : ∀ J L Q, cs_P 1466 1465 1 (am_u1 (R 1465) 0 (some 1466)) I Lg R J L Q → K none (J, L, Q, 1467, ss + 74, n)) : am_AC d k_Cy_init [.ref 1465] (I, Lg, R, 1466, ss, n) K := by
  obtain ⟨d, rfl, hd1⟩ := s_up hd
  have p0 := cs_0 1466 1465 I Lg R
  have p1 := cs_row 0 (by decide) p0 (sr_int (b := 1466) (by decide) rfl)
  refine am_in _ _ _ (am_step _ _ _ (d_Cy_init_0 (am_gi rfl ⟨⟨?_, ?_⟩, am_gi rfl (am_step _ _ _ (d_Cy_init_12 ⟨⟨rfl, rfl⟩, h _ _ _ p1⟩))⟩)))
  · show 1466 + 1 ≤ 1466 + 1
    decide
  · show ss + 74 ≤ ss + 74
    omega
end M4
