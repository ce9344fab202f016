/-! TEXTS: what a text says -/
/-- the letter at a place; behind the end 0 -/
def x_L (tl : Nat) (t : Nat → Nat) (q : Nat) : Nat := if q < tl then t q else 0
def x_sk (tl : Nat) (t : Nat → Nat) : Nat → Nat → Nat
  | 0, p => p
  | n + 1, p => if x_L tl t p = 32 then x_sk tl t n (p + 1) else p
def g_sk (tl : Nat) (t : Nat → Nat) (p : Nat) : Nat := x_sk tl t (tl - p) p
def x_rn (tl : Nat) (t : Nat → Nat) (lo hi : Nat) : Nat → Nat → Nat
  | 0, p => p
  | n + 1, p => if lo ≤ x_L tl t p ∧ x_L tl t p ≤ hi then x_rn tl t lo hi n (p + 1) else p
def gt_rn (tl : Nat) (t : Nat → Nat) (lo hi p : Nat) : Nat := x_rn tl t lo hi (tl - p) p
section TX
variable {tl : Nat} {t : Nat → Nat}
theorem L_lt {p : Nat} (h : ¬ x_L tl t p = 0) : p < tl := Classical.byContradiction fun c => h (if_neg c)
theorem L_at {p : Nat} (h : p < tl) : x_L tl t p = t p := if_pos h
theorem sk_s {p : Nat} (h : x_L tl t p = 32) : g_sk tl t p = g_sk tl t (p + 1) := by
  have := L_lt (tl := tl) (t := t) (p := p) (by rw [h]; decide)
  unfold g_sk
  rw [show tl - p = (tl - (p + 1)) + 1 by omega]
  show (if x_L tl t p = 32 then _ else _) = _
  rw [if_pos h]
theorem sk_e {p : Nat} (h : ¬ x_L tl t p = 32) : g_sk tl t p = p := by
  unfold g_sk
  cases tl - p with
  | zero => rfl
  | succ n =>
    show (if x_L tl t p = 32 then _ else _) = _
    rw [if_neg h]
theorem sk_ind {P : Nat → Nat → Prop} (h1 : ∀ p, x_L tl t p = 32 → P (p + 1) (g_sk tl t (p + 1)) → P p (g_sk tl t (p + 1))) (h2 : ∀ p, ¬ x_L tl t p = 32 → P p p) : ∀ n p, n = tl - p → P p (g_sk tl t p) := by
  intro n
  induction n with
  | zero =>
    intro p hp
    have : ¬ x_L tl t p = 32 := by
      unfold x_L
      rw [if_neg (by omega)]
      decide
    rw [sk_e this]
    exact h2 p this
  | succ n ih =>
    intro p hp
    by_cases c : x_L tl t p = 32
    · rw [sk_s c]
      exact h1 p c (ih (p + 1) (by omega))
    · rw [sk_e c]
      exact h2 p c
theorem sk_no (p : Nat) : ¬ x_L tl t (g_sk tl t p) = 32 := sk_ind (P := fun _ q => ¬ x_L tl t q = 32) (fun _ _ h => h) (fun _ h => h) _ p rfl
theorem sk_ge (p : Nat) : p ≤ g_sk tl t p := sk_ind (P := fun p q => p ≤ q) (fun _ _ h => by omega) (fun _ _ => Nat.le_refl _) _ p rfl
theorem sk_le (p : Nat) (h : p ≤ tl) : g_sk tl t p ≤ tl := sk_ind (P := fun p q => p ≤ tl → q ≤ tl) (fun p c h hp => h (by have := L_lt (tl := tl) (t := t) (p := p) (by rw [c]; decide); omega)) (fun _ _ h => h) _ p rfl h
theorem sk_sk (p : Nat) : g_sk tl t (g_sk tl t p) = g_sk tl t p := sk_e (sk_no p)
theorem rn_s {lo hi p : Nat} (h0 : 0 < lo) (h : lo ≤ x_L tl t p ∧ x_L tl t p ≤ hi) : gt_rn tl t lo hi p = gt_rn tl t lo hi (p + 1) := by
  have := L_lt (tl := tl) (t := t) (p := p) (by omega)
  unfold gt_rn
  rw [show tl - p = (tl - (p + 1)) + 1 by omega]
  show (if lo ≤ x_L tl t p ∧ x_L tl t p ≤ hi then _ else _) = _
  rw [if_pos h]
theorem rn_e {lo hi p : Nat} (h : ¬ (lo ≤ x_L tl t p ∧ x_L tl t p ≤ hi)) : gt_rn tl t lo hi p = p := by
  unfold gt_rn
  cases tl - p with
  | zero => rfl
  | succ n =>
    show (if lo ≤ x_L tl t p ∧ x_L tl t p ≤ hi then _ else _) = _
    rw [if_neg h]
theorem rn_ind {lo hi : Nat} (h0 : 0 < lo) {P : Nat → Nat → Prop} (h1 : ∀ p, (lo ≤ x_L tl t p ∧ x_L tl t p ≤ hi) → p < tl → P (p + 1) (gt_rn tl t lo hi (p + 1)) → P p (gt_rn tl t lo hi (p + 1))) (h2 : ∀ p, ¬ (lo ≤ x_L tl t p ∧ x_L tl t p ≤ hi) → P p p) : ∀ n p, n = tl - p → P p (gt_rn tl t lo hi p) := by
  intro n
  induction n with
  | zero =>
    intro p hp
    have : ¬ (lo ≤ x_L tl t p ∧ x_L tl t p ≤ hi) := by
      unfold x_L
      rw [if_neg (by omega)]
      omega
    rw [rn_e this]
    exact h2 p this
  | succ n ih =>
    intro p hp
    by_cases c : lo ≤ x_L tl t p ∧ x_L tl t p ≤ hi
    · rw [rn_s h0 c]
      exact h1 p c (by omega) (ih (p + 1) (by omega))
    · rw [rn_e c]
      exact h2 p c
theorem rn_ge {lo hi : Nat} (h0 : 0 < lo) (p : Nat) : p ≤ gt_rn tl t lo hi p := rn_ind h0 (P := fun p q => p ≤ q) (fun _ _ _ h => by omega) (fun _ _ => Nat.le_refl _) _ p rfl
theorem rn_le {lo hi : Nat} (h0 : 0 < lo) (p : Nat) (h : p ≤ tl) : gt_rn tl t lo hi p ≤ tl := rn_ind h0 (P := fun p q => p ≤ tl → q ≤ tl) (fun p _ c h _ => h (by omega)) (fun _ _ h => h) _ p rfl h
theorem rn_in {lo hi : Nat} (h0 : 0 < lo) (p : Nat) : ∀ j, p ≤ j → j < gt_rn tl t lo hi p → lo ≤ x_L tl t j ∧ x_L tl t j ≤ hi := rn_ind h0 (P := fun p q => ∀ j, p ≤ j → j < q → lo ≤ x_L tl t j ∧ x_L tl t j ≤ hi) (fun p c _ h j h1 h2 => by
  by_cases e : j = p
  · rw [e]
    exact c
  · exact h j (by omega) h2) (fun p _ j h1 h2 => by omega) _ p rfl
end TX
/-! numbers, names, rings -/
def g_nv (tl : Nat) (t : Nat → Nat) (p : Nat) : Nat := if gt_rn tl t 48 57 p = p + 1 then x_L tl t p - 48 else 10 * x_L tl t p + x_L tl t (p + 1) - 528
def n_ok (tl : Nat) (t : Nat → Nat) (p most : Nat) : Prop := (gt_rn tl t 48 57 p = p + 1 ∨ gt_rn tl t 48 57 p = p + 2) ∧ g_nv tl t p ≤ most
def nm_is (tl : Nat) (t : Nat → Nat) (k p e : Nat) : Prop := e = p + sh_n (2 + k) ∧ ∀ j, j < sh_n (2 + k) → x_L tl t (p + j) = sh_c (2 + k) j
theorem nm_uni0 : ∀ k, k < 10 → ∀ l, l < 10 → k = l ∨ ¬ sh_n (2 + k) = sh_n (2 + l) ∨ ∃ j, j < 5 ∧ j < sh_n (2 + k) ∧ ¬ sh_c (2 + k) j = sh_c (2 + l) j := by decide +kernel
theorem nm_uni {tl : Nat} {t : Nat → Nat} {k l p e : Nat} (hk : k < 10) (hl : l < 10) (h : nm_is tl t k p e) (h2 : nm_is tl t l p e) : k = l := by
  rcases nm_uni0 k hk l hl with c | c | ⟨j, _, j1, j2⟩
  · exact c
  · exact absurd (by have := h.1; have := h2.1; omega) c
  · have e1 := h.2 j j1
    have e2 := h2.2 j (by have := h.1; have := h2.1; omega)
    exact absurd (e1.symm.trans e2) j2
abbrev x_R : Type := Nat × Option (Nat → Nat)
noncomputable def x_dec (P : Prop) : Bool := @decide P (Classical.propDecidable P)
theorem dec_t {P : Prop} (h : P) : x_dec P = true := @decide_eq_true P (Classical.propDecidable P) h
theorem dec_f {P : Prop} (h : ¬ P) : x_dec P = false := @decide_eq_false P (Classical.propDecidable P) h
noncomputable def x_nm (tl : Nat) (t : Nat → Nat) (cur : Nat → Nat → Nat) (p : Nat) : x_R := cond (x_dec (∃ k, k < 10 ∧ nm_is tl t k p (gt_rn tl t 97 122 p))) (gt_rn tl t 97 122 p, some (cur (Classical.epsilon fun k => k < 10 ∧ nm_is tl t k p (gt_rn tl t 97 122 p)))) (p, none)
theorem nm_yes {tl : Nat} {t : Nat → Nat} {cur : Nat → Nat → Nat} {p k : Nat} (hk : k < 10) (h : nm_is tl t k p (gt_rn tl t 97 122 p)) : x_nm tl t cur p = (gt_rn tl t 97 122 p, some (cur k)) := by
  have e := Classical.epsilon_spec (p := fun k => k < 10 ∧ nm_is tl t k p (gt_rn tl t 97 122 p)) ⟨k, hk, h⟩
  have := nm_uni e.1 hk e.2 h
  unfold x_nm
  rw [dec_t ⟨k, hk, h⟩, this]
  rfl
theorem nm_no {tl : Nat} {t : Nat → Nat} {cur : Nat → Nat → Nat} {p : Nat} (h : ∀ k, k < 10 → ¬ nm_is tl t k p (gt_rn tl t 97 122 p)) : x_nm tl t cur p = (p, none) := by
  unfold x_nm
  rw [dec_f fun ⟨k, h1, h2⟩ => h k h1 h2]
  rfl
noncomputable def x_cy (tl : Nat) (t : Nat → Nat) : Nat → Nat → Nat → Nat → (Nat → Nat) → Nat → x_R
  | 0, _, _, _, _, p => (p, none)
  | n + 1, seen, first, last, f, p => if x_L tl t (g_sk tl t p) = 41 then (g_sk tl t p + 1, some (am_u1 f last first)) else if x_L tl t (g_sk tl t p) = 44 then cond (x_dec (n_ok tl t (g_sk tl t (g_sk tl t p + 1)) 23 ∧ ¬ seen.testBit (g_nv tl t (g_sk tl t (g_sk tl t p + 1))) = true)) (x_cy tl t n (seen ||| 2 ^ g_nv tl t (g_sk tl t (g_sk tl t p + 1))) first (g_nv tl t (g_sk tl t (g_sk tl t p + 1))) (am_u1 f last (g_nv tl t (g_sk tl t (g_sk tl t p + 1)))) (gt_rn tl t 48 57 (g_sk tl t (g_sk tl t p + 1)))) (g_sk tl t (g_sk tl t p + 1), none) else (g_sk tl t p, none)
noncomputable def x_ring (tl : Nat) (t : Nat → Nat) (p : Nat) : x_R := cond (x_dec (n_ok tl t (g_sk tl t p) 23)) (x_cy tl t 100 (2 ^ g_nv tl t (g_sk tl t p)) (g_nv tl t (g_sk tl t p)) (g_nv tl t (g_sk tl t p)) pe_1 (gt_rn tl t 48 57 (g_sk tl t p))) (g_sk tl t p, none)
noncomputable def x_pl (tl : Nat) (t : Nat → Nat) (cur : Nat → Nat → Nat) (n : Nat) (B : Nat → x_R) (p : Nat) : x_R :=
  if x_L tl t (g_sk tl t p) = 91 then (if n = 0 then (g_sk tl t p, none) else match B (g_sk tl t p + 1) with
    | (r, none) => (r, none)
    | (r, some f) => if x_L tl t (g_sk tl t r) = 93 then (g_sk tl t r + 1, some f) else (g_sk tl t r, none))
  else if x_L tl t (g_sk tl t p) = 40 then x_ring tl t (g_sk tl t p + 1) else x_nm tl t cur (g_sk tl t p)
/-- k times -/
def x_pw (f : Nat → Nat) (k : Nat) : Nat → Nat := fun p => f_it f p k
noncomputable def x_of1 (tl : Nat) (t : Nat → Nat) (f : Nat → Nat) (p : Nat) : x_R :=
  if x_L tl t (g_sk tl t p) = 94 then (if x_L tl t (g_sk tl t (g_sk tl t p + 1)) = 45 then cond (x_dec (n_ok tl t (g_sk tl t (g_sk tl t (g_sk tl t p + 1) + 1)) 99)) (gt_rn tl t 48 57 (g_sk tl t (g_sk tl t (g_sk tl t p + 1) + 1)), some (x_pw (pe_i f) (g_nv tl t (g_sk tl t (g_sk tl t (g_sk tl t p + 1) + 1))))) (g_sk tl t (g_sk tl t (g_sk tl t p + 1) + 1), none)
    else cond (x_dec (n_ok tl t (g_sk tl t (g_sk tl t p + 1)) 99)) (gt_rn tl t 48 57 (g_sk tl t (g_sk tl t p + 1)), some (x_pw f (g_nv tl t (g_sk tl t (g_sk tl t p + 1))))) (g_sk tl t (g_sk tl t p + 1), none))
  else (g_sk tl t p, some f)
noncomputable def x_of (tl : Nat) (t : Nat → Nat) (r : x_R) : x_R := match r with
  | (p, none) => (p, none)
  | (p, some f) => x_of1 tl t f p
def x_pr (tl : Nat) (t : Nat → Nat) (F : Nat → x_R) : Nat → (Nat → Nat) → Nat → x_R
  | 0, _, p => (p, none)
  | m + 1, acc, p => match F p with
    | (r, none) => (r, none)
    | (r, some f) => if x_L tl t (g_sk tl t r) = 42 then x_pr tl t F m (pe_c f acc) (g_sk tl t r + 1) else (g_sk tl t r, some (pe_c f acc))
noncomputable def x_P (tl : Nat) (t : Nat → Nat) (cur : Nat → Nat → Nat) : Nat → Nat → x_R
  | 0, p => x_pr tl t (fun p => x_of tl t (x_pl tl t cur 0 (fun p => (p, none)) p)) 100 pe_1 p
  | n + 1, p => x_pr tl t (fun p => x_of tl t (x_pl tl t cur (n + 1) (x_P tl t cur n) p)) 100 pe_1 p
/-! what is read is a permutation; the places go on -/
/-- r is a good answer from p on -/
def x_ok (tl p : Nat) (r : x_R) : Prop := p ≤ r.1 ∧ r.1 ≤ tl ∧ match r.2 with
  | none => True
  | some f => pe_m f ∧ p < r.1
section TM
variable {tl : Nat} {t : Nat → Nat} {cur : Nat → Nat → Nat}
theorem x_ok_no {p q : Nat} (h1 : p ≤ q) (h2 : q ≤ tl) : x_ok tl p (q, none) := ⟨h1, h2, trivial⟩
theorem x_ok_some {p q : Nat} {f : Nat → Nat} (h1 : p < q) (h2 : q ≤ tl) (h3 : pe_m f) : x_ok tl p (q, some f) := ⟨by show p ≤ q; omega, h2, h3, h1⟩
theorem x_ok_le {p q : Nat} {r : x_R} (h : x_ok tl q r) (h1 : p ≤ q) : x_ok tl p r := by
  obtain ⟨a, b, c⟩ := h
  refine ⟨by omega, b, ?_⟩
  cases r with
  | mk x o =>
    cases o with
    | none => trivial
    | some f =>
      have c : pe_m f ∧ q < x := c
      exact ⟨c.1, by show p < x; omega⟩
theorem num_end {p most : Nat} (h : n_ok tl t p most) : p < gt_rn tl t 48 57 p := by
  rcases h.1 with e | e <;> omega
theorem num_lt {p most : Nat} (hp : p ≤ tl) (h : n_ok tl t p most) : p < tl := by
  have := num_end h
  have := rn_le (t := t) (hi := 57) (show 0 < 48 by decide) p hp
  omega
theorem swap_m {g : Nat → Nat} (hg : pe_m g) {a c : Nat} (ha : a < 24) (hc : c < 24) (hne : ¬ a = c) : pe_m (am_u1 (am_u1 g a (g c)) c (g a)) := by
  have at_ : ∀ x, am_u1 (am_u1 g a (g c)) c (g a) x = g (if x = c then a else if x = a then c else x) := fun x => by
    by_cases c1 : x = c
    · rw [c1, am_u1_at, if_pos rfl]
    · rw [am_u1_off _ _ c1, if_neg c1]
      by_cases c2 : x = a
      · rw [c2, am_u1_at, if_pos rfl]
      · rw [am_u1_off _ _ c2, if_neg c2]
  refine ⟨⟨fun p hp => ?_, fun p q hp hq e => ?_⟩, fun p hp => ?_⟩
  · rw [at_]
    apply hg.1.1
    split
    · exact ha
    · split
      · exact hc
      · exact hp
  · rw [at_, at_] at e
    have e := pe_inj hg e
    by_cases p1 : p = c
    · rw [if_pos p1] at e
      by_cases q1 : q = c
      · omega
      · rw [if_neg q1] at e
        by_cases q2 : q = a
        · rw [if_pos q2] at e
          omega
        · rw [if_neg q2] at e
          omega
    · rw [if_neg p1] at e
      by_cases p2 : p = a
      · rw [if_pos p2] at e
        by_cases q1 : q = c
        · rw [if_pos q1] at e
          omega
        · rw [if_neg q1] at e
          by_cases q2 : q = a
          · omega
          · rw [if_neg q2] at e
            omega
      · rw [if_neg p2] at e
        by_cases q1 : q = c
        · rw [if_pos q1] at e
          omega
        · rw [if_neg q1] at e
          by_cases q2 : q = a
          · rw [if_pos q2] at e
            omega
          · rw [if_neg q2] at e
            exact e
  · rw [at_, if_neg (by omega), if_neg (by omega)]
    exact hg.2 p hp
/-- a ring while it is read -/
def cy_I (seen first last : Nat) (f : Nat → Nat) : Prop := seen < 2 ^ 24 ∧ first < 24 ∧ last < 24 ∧ seen.testBit last = true ∧ pe_m (am_u1 f last first) ∧ ∀ x, ¬ seen.testBit x = true → f x = x
theorem cy_next {seen first last v : Nat} {f : Nat → Nat} (h : cy_I seen first last f) (hv : v < 24) (hn : ¬ seen.testBit v = true) : cy_I (seen ||| 2 ^ v) first v (am_u1 f last v) := by
  obtain ⟨h1, h2, h3, h4, h5, h6⟩ := h
  have hne : ¬ last = v := fun e => hn (e ▸ h4)
  refine ⟨Nat.or_lt_two_pow h1 (Nat.pow_lt_pow_right (by decide) hv), h2, hv, tb_or2.mpr (Or.inr rfl), ?_, fun x hx => ?_⟩
  · have := swap_m h5 h3 hv hne
    have e1 : am_u1 f last first v = v := by rw [am_u1_off _ _ (fun e => hne e.symm), h6 v hn]
    have e2 : am_u1 f last first last = first := am_u1_at _ _ _
    rw [e1, e2] at this
    have e3 : am_u1 (am_u1 (am_u1 f last first) last v) v first = am_u1 (am_u1 f last v) v first := funext fun x => by
      by_cases c : x = v
      · rw [c, am_u1_at, am_u1_at]
      · rw [am_u1_off _ _ c, am_u1_off _ _ c]
        by_cases c2 : x = last
        · rw [c2, am_u1_at, am_u1_at]
        · rw [am_u1_off _ _ c2, am_u1_off _ _ c2, am_u1_off _ _ c2]
    rw [e3] at this
    exact this
  · rw [am_u1_off _ _ fun e => hx (by rw [e]; exact tb_or2.mpr (Or.inl h4))]
    exact h6 x fun q => hx (tb_or2.mpr (Or.inl q))
theorem cy_first {v : Nat} (hv : v < 24) : cy_I (2 ^ v) v v pe_1 := by
  refine ⟨Nat.pow_lt_pow_right (by decide) hv, hv, hv, by rw [tb_p2]; exact decide_eq_true rfl, ?_, fun _ _ => rfl⟩
  have : am_u1 pe_1 v v = pe_1 := funext fun x => by
    by_cases c : x = v
    · rw [c, am_u1_at]
      rfl
    · rw [am_u1_off _ _ c]
  rw [this]
  exact pe_1_m
theorem cy_ok : ∀ n seen first last f p, p ≤ tl → cy_I seen first last f → x_ok tl p (x_cy tl t n seen first last f p)
  | 0, _, _, _, _, p, hp, _ => x_ok_no (Nat.le_refl _) hp
  | n + 1, seen, first, last, f, p, hp, h => by
    have g := sk_ge (tl := tl) (t := t) p
    have l := sk_le (t := t) p hp
    unfold x_cy
    by_cases c1 : x_L tl t (g_sk tl t p) = 41
    · rw [if_pos c1]
      have := L_lt (tl := tl) (t := t) (p := g_sk tl t p) (by rw [c1]; decide)
      exact x_ok_some (by omega) (by omega) h.2.2.2.2.1
    · rw [if_neg c1]
      by_cases c2 : x_L tl t (g_sk tl t p) = 44
      · rw [if_pos c2]
        have q := L_lt (tl := tl) (t := t) (p := g_sk tl t p) (by rw [c2]; decide)
        have g2 := sk_ge (tl := tl) (t := t) (g_sk tl t p + 1)
        have l2 := sk_le (t := t) (g_sk tl t p + 1) q
        by_cases c3 : n_ok tl t (g_sk tl t (g_sk tl t p + 1)) 23 ∧ ¬ seen.testBit (g_nv tl t (g_sk tl t (g_sk tl t p + 1))) = true
        · rw [dec_t c3]
          have e := num_end c3.1
          exact x_ok_le (cy_ok n _ _ _ _ _ (rn_le (by decide) _ l2) (cy_next h (Nat.lt_succ_of_le c3.1.2) c3.2)) (by omega)
        · rw [dec_f c3]
          exact x_ok_no (by omega) l2
      · rw [if_neg c2]
        exact x_ok_no g l
theorem ring_ok {p : Nat} (hp : p ≤ tl) : x_ok tl p (x_ring tl t p) := by
  have g := sk_ge (tl := tl) (t := t) p
  have l := sk_le (t := t) p hp
  unfold x_ring
  by_cases c : n_ok tl t (g_sk tl t p) 23
  · rw [dec_t c]
    have e := num_end c
    exact x_ok_le (cy_ok _ _ _ _ _ _ (rn_le (by decide) _ l) (cy_first (Nat.lt_succ_of_le c.2))) (by omega)
  · rw [dec_f c]
    exact x_ok_no g l
theorem name_ok (hc : ∀ k, k < 10 → pe_m (cur k)) {p : Nat} (hp : p ≤ tl) : x_ok tl p (x_nm tl t cur p) := by
  by_cases c : ∃ k, k < 10 ∧ nm_is tl t k p (gt_rn tl t 97 122 p)
  · obtain ⟨k, k1, k2⟩ := c
    rw [nm_yes k1 k2]
    have := (show ∀ k, k < 10 → 0 < sh_n (2 + k) by decide +kernel) k k1
    exact x_ok_some (by have := k2.1; omega) (rn_le (by decide) _ hp) (hc k k1)
  · rw [nm_no fun k h1 h2 => c ⟨k, h1, h2⟩]
    exact x_ok_no (Nat.le_refl _) hp
theorem pw_m {f : Nat → Nat} (hf : pe_m f) : ∀ k, pe_m (x_pw f k)
  | 0 => pe_1_m
  | k + 1 => pe_c_m hf (pw_m hf k)
theorem of1_ok {f : Nat → Nat} (hf : pe_m f) {p p0 : Nat} (h0 : p0 < p) (hp : p ≤ tl) : x_ok tl p0 (x_of1 tl t f p) := by
  have g := sk_ge (tl := tl) (t := t) p
  have l := sk_le (t := t) p hp
  unfold x_of1
  by_cases c1 : x_L tl t (g_sk tl t p) = 94
  · rw [if_pos c1]
    have q := L_lt (tl := tl) (t := t) (p := g_sk tl t p) (by rw [c1]; decide)
    have g2 := sk_ge (tl := tl) (t := t) (g_sk tl t p + 1)
    have l2 := sk_le (t := t) (g_sk tl t p + 1) q
    by_cases c2 : x_L tl t (g_sk tl t (g_sk tl t p + 1)) = 45
    · rw [if_pos c2]
      have q2 := L_lt (tl := tl) (t := t) (p := g_sk tl t (g_sk tl t p + 1)) (by rw [c2]; decide)
      have g3 := sk_ge (tl := tl) (t := t) (g_sk tl t (g_sk tl t p + 1) + 1)
      have l3 := sk_le (t := t) (g_sk tl t (g_sk tl t p + 1) + 1) q2
      by_cases c3 : n_ok tl t (g_sk tl t (g_sk tl t (g_sk tl t p + 1) + 1)) 99
      · rw [dec_t c3]
        have e := num_end c3
        exact x_ok_some (by omega) (rn_le (by decide) _ l3) (pw_m (pe_i_m hf) _)
      · rw [dec_f c3]
        exact x_ok_no (by omega) l3
    · rw [if_neg c2]
      by_cases c3 : n_ok tl t (g_sk tl t (g_sk tl t p + 1)) 99
      · rw [dec_t c3]
        have e := num_end c3
        exact x_ok_some (by omega) (rn_le (by decide) _ l2) (pw_m hf _)
      · rw [dec_f c3]
        exact x_ok_no (by omega) l2
  · rw [if_neg c1]
    exact x_ok_some (by omega) l hf
theorem of_ok {p : Nat} {r : x_R} (h : x_ok tl p r) : x_ok tl p (x_of tl t r) := by
  cases r with
  | mk q o =>
    cases o with
    | none => exact h
    | some f =>
      obtain ⟨_, b, c⟩ := h
      exact of1_ok c.1 c.2 b
theorem pl_ok (hc : ∀ k, k < 10 → pe_m (cur k)) {n p : Nat} {B : Nat → x_R} (hB : ∀ q, q ≤ tl → x_ok tl q (B q)) (hp : p ≤ tl) : x_ok tl p (x_pl tl t cur n B p) := by
  have g := sk_ge (tl := tl) (t := t) p
  have l := sk_le (t := t) p hp
  unfold x_pl
  by_cases c1 : x_L tl t (g_sk tl t p) = 91
  · rw [if_pos c1]
    have q := L_lt (tl := tl) (t := t) (p := g_sk tl t p) (by rw [c1]; decide)
    by_cases c2 : n = 0
    · rw [if_pos c2]
      exact x_ok_no g l
    · rw [if_neg c2]
      have := hB (g_sk tl t p + 1) q
      generalize hr : B (g_sk tl t p + 1) = r at this
      cases r with
      | mk x o =>
        obtain ⟨a, b, c⟩ := this
        have a : g_sk tl t p + 1 ≤ x := a
        have b : x ≤ tl := b
        cases o with
        | none => exact x_ok_no (by omega) b
        | some f =>
          have g2 := sk_ge (tl := tl) (t := t) x
          have l2 := sk_le (t := t) x b
          show x_ok tl p (if x_L tl t (g_sk tl t x) = 93 then _ else _)
          by_cases c3 : x_L tl t (g_sk tl t x) = 93
          · rw [if_pos c3]
            have q3 := L_lt (tl := tl) (t := t) (p := g_sk tl t x) (by rw [c3]; decide)
            exact x_ok_some (by omega) (by omega) c.1
          · rw [if_neg c3]
            exact x_ok_no (by omega) l2
  · rw [if_neg c1]
    by_cases c2 : x_L tl t (g_sk tl t p) = 40
    · rw [if_pos c2]
      have q := L_lt (tl := tl) (t := t) (p := g_sk tl t p) (by rw [c2]; decide)
      exact x_ok_le (ring_ok q) (by omega)
    · rw [if_neg c2]
      exact x_ok_le (name_ok hc l) g
theorem pr_ok {F : Nat → x_R} (hF : ∀ q, q ≤ tl → x_ok tl q (F q)) : ∀ m acc p, pe_m acc → p ≤ tl → x_ok tl p (x_pr tl t F m acc p)
  | 0, _, p, _, hp => x_ok_no (Nat.le_refl _) hp
  | m + 1, acc, p, ha, hp => by
    have := hF p hp
    unfold x_pr
    generalize hr : F p = r at this
    cases r with
    | mk x o =>
      obtain ⟨a, b, c⟩ := this
      have a : p ≤ x := a
      have b : x ≤ tl := b
      cases o with
      | none => exact x_ok_no a b
      | some f =>
        have c : pe_m f ∧ p < x := c
        have g2 := sk_ge (tl := tl) (t := t) x
        have l2 := sk_le (t := t) x b
        show x_ok tl p (if x_L tl t (g_sk tl t x) = 42 then _ else _)
        by_cases c3 : x_L tl t (g_sk tl t x) = 42
        · rw [if_pos c3]
          have q3 := L_lt (tl := tl) (t := t) (p := g_sk tl t x) (by rw [c3]; decide)
          exact x_ok_le (pr_ok hF m _ _ (pe_c_m c.1 ha) q3) (by omega)
        · rw [if_neg c3]
          exact x_ok_some (by omega) l2 (pe_c_m c.1 ha)
theorem P_ok (hc : ∀ k, k < 10 → pe_m (cur k)) : ∀ n p, p ≤ tl → x_ok tl p (x_P tl t cur n p)
  | 0, p, hp => pr_ok (fun q hq => of_ok (pl_ok hc (fun _ h => x_ok_no (Nat.le_refl _) h) hq)) 100 pe_1 p pe_1_m hp
  | n + 1, p, hp => pr_ok (fun q hq => of_ok (pl_ok hc (fun x hx => P_ok hc n x hx) hq)) 100 pe_1 p pe_1_m hp
end TM
