/-! THE LEAST ELEMENT WITH GIVEN IMAGES -/
def f_q (b : Nat → Nat) (D : Nat → Nat → Prop) (wv : Nat → Nat) (many k : Nat) (y : Nat → Nat) (q : Nat) : Prop := D k q ∧ (k < many → y q = wv (b k)) ∧ (¬ k < many → ∀ p, D k p → y q ≤ y p)
def fr (b : Nat → Nat) (D : Nat → Nat → Prop) (u : Nat → Nat → Nat → Nat) (wv : Nat → Nat) (many : Nat) : Nat → (Nat → Nat) → Prop
  | 0, y => y = pe_1
  | k + 1, z => ∃ y q, fr b D u wv many k y ∧ f_q b D wv many k y q ∧ z = pe_c y (u k q)
/-- it ends at a level: none is as wanted -/
def f_no (b : Nat → Nat) (D : Nat → Nat → Prop) (u : Nat → Nat → Nat → Nat) (wv : Nat → Nat) (many : Nat) : Prop := ∃ k y, k < 24 ∧ k < many ∧ fr b D u wv many k y ∧ ∀ q, D k q → ¬ y q = wv (b k)
section FN
variable {b : Nat → Nat} {D D2 : Nat → Nat → Prop} {u u2 : Nat → Nat → Nat → Nat} {wv : Nat → Nat} {many : Nat} {S : (Nat → Nat) → Prop}
theorem fr_m (h : ta b D u) : ∀ k, k ≤ 24 → ∀ y, fr b D u wv many k y → pe_m y
  | 0, _, y, e => by
    have e : y = pe_1 := e
    rw [e]
    exact pe_1_m
  | k + 1, hk, z, ⟨y, q, h1, h2, e⟩ => by
    rw [e]
    exact pe_c_m (fr_m h k (by omega) y h1) ((h.2 k (by omega)).2.2 q h2.1).2.1
theorem d_move (h : ta b D u) (hm : ∀ s, S s → pe_m s) (hS : ∀ x, st D u 24 x ↔ ge S x) {k q : Nat} (hk : k < 24) {f : Nat → Nat} (hf : ge S f) (fxf : fx b k f) (hq : D k q) : D k (f q) := by
  rw [st_det h hS hk] at hq ⊢
  obtain ⟨g, g1, g2, g3⟩ := hq
  exact ⟨pe_c f g, ge_c hf g1, fx_c fxf g2, congrArg f g3⟩
theorem fr_rel (h : ta b D u) (h2 : ta b D2 u2) (hm : ∀ s, S s → pe_m s) (hS : ∀ x, st D u 24 x ↔ ge S x) (hS2 : ∀ x, st D2 u2 24 x ↔ ge S x) (hD : ∀ k q, k < 24 → (D k q ↔ D2 k q)) : ∀ k, k ≤ 24 → ∀ y y2, fr b D u wv many k y → fr b D2 u2 wv many k y2 → ∃ f, ge S f ∧ fx b k f ∧ y2 = pe_c y f
  | 0, _, y, y2, e, e2 => by
    have e : y = pe_1 := e
    have e2 : y2 = pe_1 := e2
    exact ⟨pe_1, ge_1, fun _ _ => rfl, by rw [e, e2]; rfl⟩
  | k + 1, hk, z, z2, ⟨y, q, a1, a2, a3⟩, ⟨y2, q2, b1, b2, b3⟩ => by
    obtain ⟨f, f1, f2, f3⟩ := fr_rel h h2 hm hS hS2 hD k (by omega) y y2 a1 b1
    have k24 : k < 24 := by omega
    have ym := fr_m h k (by omega) y a1
    have fm := ge_m hm f1
    have uq := (h.2 k k24).2.2 q a2.1
    have uq2 := (h2.2 k k24).2.2 q2 b2.1
    have m1 : D k (f q2) := d_move h hm hS k24 f1 f2 ((hD k q2 k24).mpr b2.1)
    have m2 : D2 k (pe_i f q) := d_move h2 hm hS2 k24 (ge_i hm f1) (fx_i fm f2) ((hD k q k24).mp a2.1)
    have eq : f q2 = q := pe_inj ym (by
      have e2 : ∀ x, y2 x = y (f x) := fun x => by rw [f3]; rfl
      by_cases c : k < many
      · rw [a2.2.1 c, ← e2, b2.2.1 c]
      · have l1 := a2.2.2 c _ m1
        have l2 := b2.2.2 c _ m2
        rw [e2, e2, pe_i_r fm] at l2
        omega)
    refine ⟨pe_c (pe_i (u k q)) (pe_c f (u2 k q2)), ge_c (ge_i hm (st_ug h (fun f => (hS f).mp) k24 a2.1)) (ge_c f1 (st_ug h2 (fun f => (hS2 f).mp) k24 b2.1)), fx_s (fx_c (fx_i uq.2.1 uq.2.2.2) (fx_c f2 uq2.2.2.2)) ?_, ?_⟩
    · show pe_i (u k q) (f (u2 k q2 (b k))) = b k
      rw [uq2.2.2.1, eq]
      exact pe_inj uq.2.1 (by rw [pe_i_r uq.2.1, uq.2.2.1])
    · rw [b3, a3, f3]
      exact funext fun p => congrArg y (pe_i_r uq.2.1 _).symm
theorem fr_same (h : ta b D u) (h2 : ta b D2 u2) (hm : ∀ s, S s → pe_m s) (hS : ∀ x, st D u 24 x ↔ ge S x) (hS2 : ∀ x, st D2 u2 24 x ↔ ge S x) (hD : ∀ k q, k < 24 → (D k q ↔ D2 k q)) {y y2 : Nat → Nat} (h3 : fr b D u wv many 24 y) (h4 : fr b D2 u2 wv many 24 y2) : y = y2 := by
  obtain ⟨f, f1, f2, f3⟩ := fr_rel h h2 hm hS hS2 hD 24 (Nat.le_refl _) y y2 h3 h4
  rw [f3, fx_1 h.1 (ge_m hm f1) f2]
  rfl
theorem fr_step {k : Nat} {z : Nat → Nat} : ∀ n, fr b D u wv many (k + 1 + n) z → ∃ y q, fr b D u wv many k y ∧ f_q b D wv many k y q
  | 0, ⟨y, q, h1, h2, _⟩ => ⟨y, q, h1, h2⟩
  | n + 1, ⟨y, _, h, _, _⟩ => fr_step n h
theorem fr_yes (h : ta b D u) (h2 : ta b D2 u2) (hm : ∀ s, S s → pe_m s) (hS : ∀ x, st D u 24 x ↔ ge S x) (hS2 : ∀ x, st D2 u2 24 x ↔ ge S x) (hD : ∀ k q, k < 24 → (D k q ↔ D2 k q)) {y : Nat → Nat} (h3 : fr b D u wv many 24 y) : ¬ f_no b D2 u2 wv many := by
  intro ⟨k, y2, k1, k2, h4, h5⟩
  have h3 : fr b D u wv many (k + 1 + (23 - k)) y := by rw [show k + 1 + (23 - k) = 24 by omega]; exact h3
  obtain ⟨y1, q, a1, a2⟩ := fr_step (23 - k) h3
  obtain ⟨f, f1, f2, f3⟩ := fr_rel h h2 hm hS hS2 hD k (by omega) y1 y2 a1 h4
  have fm := ge_m hm f1
  refine h5 (pe_i f q) (d_move h2 hm hS2 k1 (ge_i hm f1) (fx_i fm f2) ((hD k q k1).mp a2.1)) ?_
  rw [f3]
  show y1 (f (pe_i f q)) = _
  rw [pe_i_r fm, a2.2.1 k2]
end FN
